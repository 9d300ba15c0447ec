/-! the law's loop: its blocks and arms (written by wip/gen/law.py) -/
def bz (x : Int32) : Nat := if x = 0 then 0 else 1
theorem bz_01 (x : Int32) : bz x = 0 ∨ bz x = 1 := by
  unfold bz
  by_cases h : x = 0
  · exact Or.inl (if_pos h)
  · exact Or.inr (if_neg h)
section LAWB
variable {p : Program} {l : Launch} {e : Env} {R : Room} {s : State} {m : MethodId} {args : Array Value} {below : List Frame} {meth : Method} {c : Code} {H : Heap} {locs : List Loc} {cells slots : Nat} {Q : State → Prop} {cc : ByteArray} {pc : Nat} {ls : Array Slot} {rest : List Value}
/-- '!= 0' -/
theorem l_bool (hx : p.tables.exec = Jvm.exec) (hb : c.code = cc) {x : Int32} (d0 : decode cc pc = .ok (.ifCond .eq 7, 3)) (d3 : decode cc (pc + 3) = .ok (.iconst 1, 1)) (d4 : decode cc (pc + 4) = .ok (.goto 4, 3)) (d7 : decode cc (pc + 7) = .ok (.iconst 0, 1)) (kk : W p l e R s m args below meth c H locs cells slots Q (F0 m (pc + 8) ls (.int (nI (bz x)) :: rest))) : W p l e R s m args below meth c H locs cells slots Q (F0 m pc ls (.int x :: rest)) := by
  refine lv_if_eq (tgt := pc + 7) hx hb d0 (by omega) (fun h => ?_) (fun h => ?_)
  · have e : bz x = 0 := if_pos h
    rw [e] at kk
    exact lv_iconst (v := nI 0) hx hb d7 (by decide) kk
  · have e : bz x = 1 := if_neg h
    rw [e] at kk
    refine lv_iconst (v := nI 1) hx hb d3 (by decide) ?_
    exact lv_goto (tgt := pc + 8) hx hb d4 (by omega) kk
/-- 'script[i + k]' -/
theorem l_read {A : Nat → Prop} {H0 : Heap} {b L i : Nat} {xs : Nat → Int32} (hx : p.tables.exec = Jvm.exec) (hb : c.code = cc) (hX : va_X b L xs s H0) (hbl : b < H0.size) (hbA : ¬ A b) (hS : va_S A H0 H locs) {nL : Nat} {lv : List (Nat × Value)} (hl : lv_has ls nL lv) {k0 k4 : Nat} (h0 : lv[k0]? = some (0, .ref b)) (h4 : lv[k4]? = some (4, .int (nI i))) {k : Nat} {n : Int} (hn : Int32.ofInt n = nI k) (hik : i + k < L) (hL : L ≤ 3072) (d0 : decode cc pc = .ok (.aload_n 0, 1)) (d1 : decode cc (pc + 1) = .ok (.iload 4, 2)) (d3 : decode cc (pc + 3) = .ok (.iconst n, 1)) (d4 : decode cc (pc + 4) = .ok (.iadd, 1)) (d5 : decode cc (pc + 5) = .ok (.iaload, 1)) (kk : W p l e R s m args below meth c H locs cells slots Q (F0 m (pc + 6) ls (.int (xs (i + k)) :: rest))) : W p l e R s m args below meth c H locs cells slots Q (F0 m pc ls rest) := by
  refine lv_aload_n hx hb d0 rfl (lv_at hl k0 h0) ?_
  refine lv_iload hx hb d1 (lv_at hl k4 h4) ?_
  refine lv_iconst (v := nI k) hx hb d3 hn ?_
  refine lv_iadd hx hb d4 ?_
  rw [nI_add]
  refine va_sld hx hb hX hbl hbA hS (vp_in_nI hik (by omega)) d5 ?_
  rw [nI_clamp (by omega)]
  exact kk
end LAWB
theorem goodSW {y : MethodName} {ix : Nat} {own : String} {ws : List Cond} (hc : ∀ w ∈ ws, w ∈ lwg) (h1 : Cond.methodLink own ix y ∈ lwg) (h2 : Cond.static y ∈ lwg) (h4 : Cond.initialized y.cls ∈ lwg) : GoodIn lwg (va_wsS own ix y ws) := by
  intro w h
  rcases List.mem_append.mp h with h | h
  · have hw : w ∈ lwg := by
      simp only [List.mem_cons, List.not_mem_nil, or_false] at h
      rcases h with e | e | e <;> subst e <;> assumption
    exact ⟨hw, good_of_word (List.mem_filter.mp hw).2⟩
  · exact ⟨hc w h, good_of_word (List.mem_filter.mp (hc w h)).2⟩
theorem t_cw_led : Cond.codeWith yL_led cL_led 4 (some .int) [(0, 9, 12, 13)] ∈ lwg := gw_4 (j := 215) (by decide +kernel) (by decide +kernel)
/-- the class's led knows nothing of the law's array -/
theorem led_out {w : GW} {j : Nat} {v : Int64} : ∀ (n : Nat) (x1 x2 x3 : Int32), f_X8_led_4 n x1 x2 x3 (sL w 149 j v) = (f_X8_led_4 n x1 x2 x3 w).map (fun z => (z.1, sL w 149 j v)) ∨ f_X8_led_4 n x1 x2 x3 w = none := by
  intro n
  induction n with
  | zero => intro x1 x2 x3; exact Or.inr (by rw [f_X8_led_4])
  | succ n ih =>
    intro x1 x2 x3
    rw [f_X8_led_4, f_X8_led_4]
    have e1 : ∀ p q, gI (sL w 149 j v) p q = gI w p q := fun _ _ => rfl
    have e2 : gR (sL w 149 j v) 0 = gR w 0 := rfl
    rw [e2, e1, e1]
    by_cases h1 : (gI w (fxH (gR w 0)) 1) ≤ x3
    · rw [if_pos h1, if_pos h1]; exact Or.inl rfl
    · rw [if_neg h1, if_neg h1]
      by_cases h2 : inb x3 5
      · rw [if_pos h2, if_pos h2]
        by_cases h3 : (gI w 122 (ix x3)) = 0
        · rw [if_pos h3, if_pos h3]
          by_cases h4 : x2 = x1
          · rw [if_pos h4, if_pos h4]; exact Or.inl rfl
          · rw [if_neg h4, if_neg h4]; exact ih _ _ _
        · rw [if_neg h3, if_neg h3]; exact ih _ _ _
      · rw [if_neg h2, if_neg h2]; exact Or.inr rfl
theorem led_out2 {w : GW} {j : Nat} {v : Int64} {x : Int32} {o : Option Int32} (h : f_X8_led x w = some (o, w)) : f_X8_led x (sL w 149 j v) = some (o, sL w 149 j v) := by
  rw [f_X8_led] at h ⊢
  rcases led_out (w := w) (j := j) (v := v) fu x 0 0 with h2 | h2
  · rw [h2, h]; rfl
  · rw [h2] at h; cases h
/-- what stands in the law's locals -/
abbrev lwL (G : GG) (b i : Nat) : List (Nat × Value) := [(0, .ref b), (1, .ref (gad G 0)), (2, .ref (gad G 130)), (3, .ref (gad G 149)), (4, .int (nI i))]
section LAWA
variable {p : Program} {l : Launch} {e : Env} {s : State} {m : MethodId} {below : List Frame} {meth : Method} {c : Code} {H : Heap} {locs : List Loc} {cells slots : Nat} {Q : State → Prop} {ls : Array Slot} {rest : List Value} {G : GG} {w : GW} {b L i : Nat} {xs : Nat → Int32}
/-- what an arm stands on, and what it leaves -/
def lwKK (p : Program) (l : Launch) (e : Env) (s : State) (m : MethodId) (below : List Frame) (meth : Method) (c : Code) (b i cells slots : Nat) (Q : State → Prop) (G : GG) : Prop := ∀ (w : GW) (H : Heap) (locs : List Loc) (ls : Array Slot), JJ w → St G w s H locs → lv_has ls 7 (lwL G b i) → W p l e room_1 s m #[Value.ref b] below meth c H locs (cells + 6) (slots + 6) Q (F0 m 1456 ls [])

theorem cmp_eq9 (v : Int64) : lg_cmp v v = 0 := by
  unfold lg_cmp
  rw [if_neg (Int64.lt_irrefl), if_pos rfl]
set_option maxHeartbeats 4000000 in
theorem arm_0 (C0 : lw_At p s m meth c b L xs) (hbA : ¬ gA G b) (hL : L ≤ 3072) (hi : i + 6 ≤ L) (J : JJ w) (S : St G w s H locs) (hl : lv_has ls 7 (lwL G b i)) (hc : cells + 6 ≤ 601024 ∧ slots + 6 ≤ 7293034) (kk : lwKK p l e s m below meth c b i cells slots Q G) : W p l e room_1 s m #[Value.ref b] below meth c H locs cells slots Q (F0 m 176 ls []) := by
  obtain ⟨hx, hb, hr, hml, hown, hts, hX, hbl, hlocks, hgv⟩ := C0
  have hg : ∀ q ∈ lwg, q.before #[Value.ref b] s = true := fun q h => hts q (List.mem_filter.mp h).1
  have F : CallFix p m c cL_law 7 s #[Value.ref b] lwg RL := ⟨hx, hb, hml, hown, hg⟩
  obtain ⟨v, w1, w2, e8, e9, J2⟩ := s_feed J (xs (i + 1)) (xs (i + 2)) (xs (i + 3)) (xs (i + 4)) (xs (i + 5))
  refine lv_aload_n hx hb dL_law_176 rfl (lv_at hl 1 rfl) ?_
  refine l_read (i := i) (k := 1) hx hb hX hbl hbA S.2.2.2.1 hl (k0 := 0) (k4 := 4) rfl rfl (by decide) (by omega) hL dL_law_177 dL_law_178 dL_law_180 dL_law_181 dL_law_182 ?_
  refine l_read (i := i) (k := 2) hx hb hX hbl hbA S.2.2.2.1 hl (k0 := 0) (k4 := 4) rfl rfl (by decide) (by omega) hL dL_law_183 dL_law_184 dL_law_186 dL_law_187 dL_law_188 ?_
  refine l_read (i := i) (k := 3) hx hb hX hbl hbA S.2.2.2.1 hl (k0 := 0) (k4 := 4) rfl rfl (by decide) (by omega) hL dL_law_189 dL_law_190 dL_law_192 dL_law_193 dL_law_194 ?_
  refine l_read (i := i) (k := 4) hx hb hX hbl hbA S.2.2.2.1 hl (k0 := 0) (k4 := 4) rfl rfl (by decide) (by omega) hL dL_law_195 dL_law_196 dL_law_198 dL_law_199 dL_law_200 ?_
  refine l_read (i := i) (k := 5) hx hb hX hbl hbA S.2.2.2.1 hl (k0 := 0) (k4 := 4) rfl rfl (by decide) (by omega) hL dL_law_201 dL_law_202 dL_law_204 dL_law_205 dL_law_206 ?_
  refine g_callVi (As := [.int (xs (i + 1)), .int (xs (i + 2)), .int (xs (i + 3)), .int (xs (i + 4)), .int (xs (i + 5))]) (rest := []) F S (c_X8_feed l G ((xs (i + 1))) ((xs (i + 2))) ((xs (i + 3))) ((xs (i + 4))) ((xs (i + 5))) _ e8) (cwV 5 hg (goodV t_co_X8_feed t_ml_L_19 t_im_X8_feed t_se_X8_feed t_in_X8) rfl rfl rfl (by decide +kernel) ⟨Nat.le_of_ble_eq_true rfl, Nat.le_of_ble_eq_true rfl⟩) (S.obj (k := 0) (by decide) (by decide) rfl (oc_X8 _ _ _ (by decide))) rfl hl.1 rfl (Nat.le_of_ble_eq_true rfl) ⟨Nat.le_trans (Nat.le_add_right _ _) hc.1, Nat.le_trans (Nat.le_add_right _ _) hc.2⟩ dL_law_207 (fun H locs S => ?_)
  have S : St G w1 s H locs := S
  refine lv_aload_n hx hb dL_law_210 rfl (lv_at hl 2 rfl) ?_
  refine l_read (i := i) (k := 1) hx hb hX hbl hbA S.2.2.2.1 hl (k0 := 0) (k4 := 4) rfl rfl (by decide) (by omega) hL dL_law_211 dL_law_212 dL_law_214 dL_law_215 dL_law_216 ?_
  refine l_read (i := i) (k := 2) hx hb hX hbl hbA S.2.2.2.1 hl (k0 := 0) (k4 := 4) rfl rfl (by decide) (by omega) hL dL_law_217 dL_law_218 dL_law_220 dL_law_221 dL_law_222 ?_
  refine l_read (i := i) (k := 3) hx hb hX hbl hbA S.2.2.2.1 hl (k0 := 0) (k4 := 4) rfl rfl (by decide) (by omega) hL dL_law_223 dL_law_224 dL_law_226 dL_law_227 dL_law_228 ?_
  refine l_read (i := i) (k := 4) hx hb hX hbl hbA S.2.2.2.1 hl (k0 := 0) (k4 := 4) rfl rfl (by decide) (by omega) hL dL_law_229 dL_law_230 dL_law_232 dL_law_233 dL_law_234 ?_
  refine l_read (i := i) (k := 5) hx hb hX hbl hbA S.2.2.2.1 hl (k0 := 0) (k4 := 4) rfl rfl (by decide) (by omega) hL dL_law_235 dL_law_236 dL_law_238 dL_law_239 dL_law_240 ?_
  refine g_callVi (As := [.int (xs (i + 1)), .int (xs (i + 2)), .int (xs (i + 3)), .int (xs (i + 4)), .int (xs (i + 5))]) (rest := [.int v]) F S (c_X9_feed l G ((xs (i + 1))) ((xs (i + 2))) ((xs (i + 3))) ((xs (i + 4))) ((xs (i + 5))) _ e9) (cwV 5 hg (goodV t_co_X9_feed t_ml_L_23 t_im_X9_feed t_se_X9_feed t_in_X9) rfl rfl rfl (by decide +kernel) ⟨Nat.le_of_ble_eq_true rfl, Nat.le_of_ble_eq_true rfl⟩) (S.obj (k := 130) (by decide) (by decide) rfl (oc_X9 _ _ _ (by decide))) rfl hl.1 rfl (Nat.le_of_ble_eq_true rfl) ⟨Nat.le_trans (Nat.le_add_right _ _) hc.1, Nat.le_trans (Nat.le_add_right _ _) hc.2⟩ dL_law_241 (fun H locs S => ?_)
  have S : St G w2 s H locs := S
  refine lv_icmp_eq (tgt := 1456) hx hb dL_law_244 (by decide) (fun _ => ?_) (fun q => absurd rfl q)
  refine W.widen (k := cells + 6) (n := slots + 6) (Nat.le_add_right _ _) (Nat.le_add_right _ _) ?_
  exact kk w2 H locs ls J2 S hl
set_option maxHeartbeats 4000000 in
theorem arm_1 (C0 : lw_At p s m meth c b L xs) (hbA : ¬ gA G b) (hL : L ≤ 3072) (hi : i + 6 ≤ L) (J : JJ w) (S : St G w s H locs) (hl : lv_has ls 7 (lwL G b i)) (hc : cells + 6 ≤ 601024 ∧ slots + 6 ≤ 7293034) (kk : lwKK p l e s m below meth c b i cells slots Q G) : W p l e room_1 s m #[Value.ref b] below meth c H locs cells slots Q (F0 m 249 ls []) := by
  obtain ⟨hx, hb, hr, hml, hown, hts, hX, hbl, hlocks, hgv⟩ := C0
  have hg : ∀ q ∈ lwg, q.before #[Value.ref b] s = true := fun q h => hts q (List.mem_filter.mp h).1
  have F : CallFix p m c cL_law 7 s #[Value.ref b] lwg RL := ⟨hx, hb, hml, hown, hg⟩
  obtain ⟨v, w1, w2, e8, e9, J2⟩ := s_hall J (xs (i + 1))
  refine lv_aload_n hx hb dL_law_249 rfl (lv_at hl 1 rfl) ?_
  refine l_read (i := i) (k := 1) hx hb hX hbl hbA S.2.2.2.1 hl (k0 := 0) (k4 := 4) rfl rfl (by decide) (by omega) hL dL_law_250 dL_law_251 dL_law_253 dL_law_254 dL_law_255 ?_
  refine g_callVi (As := [.int (xs (i + 1))]) (rest := []) F S (c_X8_hall l G ((xs (i + 1))) _ e8) (cwV 1 hg (goodV t_co_X8_hall t_ml_L_24 t_im_X8_hall t_se_X8_hall t_in_X8) rfl rfl rfl (by decide +kernel) ⟨Nat.le_of_ble_eq_true rfl, Nat.le_of_ble_eq_true rfl⟩) (S.obj (k := 0) (by decide) (by decide) rfl (oc_X8 _ _ _ (by decide))) rfl hl.1 rfl (Nat.le_of_ble_eq_true rfl) ⟨Nat.le_trans (Nat.le_add_right _ _) hc.1, Nat.le_trans (Nat.le_add_right _ _) hc.2⟩ dL_law_256 (fun H locs S => ?_)
  have S : St G w1 s H locs := S
  refine lv_aload_n hx hb dL_law_259 rfl (lv_at hl 2 rfl) ?_
  refine l_read (i := i) (k := 1) hx hb hX hbl hbA S.2.2.2.1 hl (k0 := 0) (k4 := 4) rfl rfl (by decide) (by omega) hL dL_law_260 dL_law_261 dL_law_263 dL_law_264 dL_law_265 ?_
  refine g_callVi (As := [.int (xs (i + 1))]) (rest := [.int v]) F S (c_X9_hall l G ((xs (i + 1))) _ e9) (cwV 1 hg (goodV t_co_X9_hall t_ml_L_27 t_im_X9_hall t_se_X9_hall t_in_X9) rfl rfl rfl (by decide +kernel) ⟨Nat.le_of_ble_eq_true rfl, Nat.le_of_ble_eq_true rfl⟩) (S.obj (k := 130) (by decide) (by decide) rfl (oc_X9 _ _ _ (by decide))) rfl hl.1 rfl (Nat.le_of_ble_eq_true rfl) ⟨Nat.le_trans (Nat.le_add_right _ _) hc.1, Nat.le_trans (Nat.le_add_right _ _) hc.2⟩ dL_law_266 (fun H locs S => ?_)
  have S : St G w2 s H locs := S
  refine lv_icmp_eq (tgt := 1456) hx hb dL_law_269 (by decide) (fun _ => ?_) (fun q => absurd rfl q)
  refine W.widen (k := cells + 6) (n := slots + 6) (Nat.le_add_right _ _) (Nat.le_add_right _ _) ?_
  exact kk w2 H locs ls J2 S hl
set_option maxHeartbeats 4000000 in
theorem arm_2 (C0 : lw_At p s m meth c b L xs) (hbA : ¬ gA G b) (hL : L ≤ 3072) (hi : i + 6 ≤ L) (J : JJ w) (S : St G w s H locs) (hl : lv_has ls 7 (lwL G b i)) (hc : cells + 6 ≤ 601024 ∧ slots + 6 ≤ 7293034) (kk : lwKK p l e s m below meth c b i cells slots Q G) : W p l e room_1 s m #[Value.ref b] below meth c H locs cells slots Q (F0 m 274 ls []) := by
  obtain ⟨hx, hb, hr, hml, hown, hts, hX, hbl, hlocks, hgv⟩ := C0
  have hg : ∀ q ∈ lwg, q.before #[Value.ref b] s = true := fun q h => hts q (List.mem_filter.mp h).1
  have F : CallFix p m c cL_law 7 s #[Value.ref b] lwg RL := ⟨hx, hb, hml, hown, hg⟩
  obtain ⟨v, w1, w2, e8, e9, J2⟩ := s_fault J 
  refine lv_aload_n hx hb dL_law_274 rfl (lv_at hl 1 rfl) ?_
  refine g_callVi (As := []) (rest := []) F S (c_X8_fault l G  _ e8) (cwV 0 hg (goodV t_co_X8_fault t_ml_L_28 t_im_X8_fault t_se_X8_fault t_in_X8) rfl rfl rfl (by decide +kernel) ⟨Nat.le_of_ble_eq_true rfl, Nat.le_of_ble_eq_true rfl⟩) (S.obj (k := 0) (by decide) (by decide) rfl (oc_X8 _ _ _ (by decide))) rfl hl.1 rfl (Nat.le_of_ble_eq_true rfl) ⟨Nat.le_trans (Nat.le_add_right _ _) hc.1, Nat.le_trans (Nat.le_add_right _ _) hc.2⟩ dL_law_275 (fun H locs S => ?_)
  have S : St G w1 s H locs := S
  refine lv_aload_n hx hb dL_law_278 rfl (lv_at hl 2 rfl) ?_
  refine g_callVi (As := []) (rest := [.int v]) F S (c_X9_fault l G  _ e9) (cwV 0 hg (goodV t_co_X9_fault t_ml_L_32 t_im_X9_fault t_se_X9_fault t_in_X9) rfl rfl rfl (by decide +kernel) ⟨Nat.le_of_ble_eq_true rfl, Nat.le_of_ble_eq_true rfl⟩) (S.obj (k := 130) (by decide) (by decide) rfl (oc_X9 _ _ _ (by decide))) rfl hl.1 rfl (Nat.le_of_ble_eq_true rfl) ⟨Nat.le_trans (Nat.le_add_right _ _) hc.1, Nat.le_trans (Nat.le_add_right _ _) hc.2⟩ dL_law_279 (fun H locs S => ?_)
  have S : St G w2 s H locs := S
  refine lv_icmp_eq (tgt := 1456) hx hb dL_law_282 (by decide) (fun _ => ?_) (fun q => absurd rfl q)
  refine W.widen (k := cells + 6) (n := slots + 6) (Nat.le_add_right _ _) (Nat.le_add_right _ _) ?_
  exact kk w2 H locs ls J2 S hl
set_option maxHeartbeats 4000000 in
theorem arm_3 (C0 : lw_At p s m meth c b L xs) (hbA : ¬ gA G b) (hL : L ≤ 3072) (hi : i + 6 ≤ L) (J : JJ w) (S : St G w s H locs) (hl : lv_has ls 7 (lwL G b i)) (hc : cells + 6 ≤ 601024 ∧ slots + 6 ≤ 7293034) (kk : lwKK p l e s m below meth c b i cells slots Q G) : W p l e room_1 s m #[Value.ref b] below meth c H locs cells slots Q (F0 m 287 ls []) := by
  obtain ⟨hx, hb, hr, hml, hown, hts, hX, hbl, hlocks, hgv⟩ := C0
  have hg : ∀ q ∈ lwg, q.before #[Value.ref b] s = true := fun q h => hts q (List.mem_filter.mp h).1
  have F : CallFix p m c cL_law 7 s #[Value.ref b] lwg RL := ⟨hx, hb, hml, hown, hg⟩
  obtain ⟨v, w1, w2, e8, e9, J2⟩ := s_where J 
  refine lv_aload_n hx hb dL_law_287 rfl (lv_at hl 1 rfl) ?_
  refine g_callVi (As := []) (rest := []) F S (c_X8_where l G  _ e8) (cwV 0 hg (goodV t_co_X8_where t_ml_L_33 t_im_X8_where t_se_X8_where t_in_X8) rfl rfl rfl (by decide +kernel) ⟨Nat.le_of_ble_eq_true rfl, Nat.le_of_ble_eq_true rfl⟩) (S.obj (k := 0) (by decide) (by decide) rfl (oc_X8 _ _ _ (by decide))) rfl hl.1 rfl (Nat.le_of_ble_eq_true rfl) ⟨Nat.le_trans (Nat.le_add_right _ _) hc.1, Nat.le_trans (Nat.le_add_right _ _) hc.2⟩ dL_law_288 (fun H locs S => ?_)
  have S : St G w1 s H locs := S
  refine lv_aload_n hx hb dL_law_291 rfl (lv_at hl 2 rfl) ?_
  refine g_callVi (As := []) (rest := [.int v]) F S (c_X9_where l G  _ e9) (cwV 0 hg (goodV t_co_X9_where t_ml_L_36 t_im_X9_where t_se_X9_where t_in_X9) rfl rfl rfl (by decide +kernel) ⟨Nat.le_of_ble_eq_true rfl, Nat.le_of_ble_eq_true rfl⟩) (S.obj (k := 130) (by decide) (by decide) rfl (oc_X9 _ _ _ (by decide))) rfl hl.1 rfl (Nat.le_of_ble_eq_true rfl) ⟨Nat.le_trans (Nat.le_add_right _ _) hc.1, Nat.le_trans (Nat.le_add_right _ _) hc.2⟩ dL_law_292 (fun H locs S => ?_)
  have S : St G w2 s H locs := S
  refine lv_icmp_eq (tgt := 1456) hx hb dL_law_295 (by decide) (fun _ => ?_) (fun q => absurd rfl q)
  refine W.widen (k := cells + 6) (n := slots + 6) (Nat.le_add_right _ _) (Nat.le_add_right _ _) ?_
  exact kk w2 H locs ls J2 S hl
set_option maxHeartbeats 4000000 in
theorem arm_4 (C0 : lw_At p s m meth c b L xs) (hbA : ¬ gA G b) (hL : L ≤ 3072) (hi : i + 6 ≤ L) (J : JJ w) (S : St G w s H locs) (hl : lv_has ls 7 (lwL G b i)) (hc : cells + 6 ≤ 601024 ∧ slots + 6 ≤ 7293034) (kk : lwKK p l e s m below meth c b i cells slots Q G) : W p l e room_1 s m #[Value.ref b] below meth c H locs cells slots Q (F0 m 300 ls []) := by
  obtain ⟨hx, hb, hr, hml, hown, hts, hX, hbl, hlocks, hgv⟩ := C0
  have hg : ∀ q ∈ lwg, q.before #[Value.ref b] s = true := fun q h => hts q (List.mem_filter.mp h).1
  have F : CallFix p m c cL_law 7 s #[Value.ref b] lwg RL := ⟨hx, hb, hml, hown, hg⟩
  obtain ⟨v, w1, w2, e8, e9, J2⟩ := s_fullest J (xs (i + 1)) (xs (i + 2)) (xs (i + 3)) (bz_01 (xs (i + 4)))
  refine lv_aload_n hx hb dL_law_300 rfl (lv_at hl 1 rfl) ?_
  refine l_read (i := i) (k := 1) hx hb hX hbl hbA S.2.2.2.1 hl (k0 := 0) (k4 := 4) rfl rfl (by decide) (by omega) hL dL_law_301 dL_law_302 dL_law_304 dL_law_305 dL_law_306 ?_
  refine l_read (i := i) (k := 2) hx hb hX hbl hbA S.2.2.2.1 hl (k0 := 0) (k4 := 4) rfl rfl (by decide) (by omega) hL dL_law_307 dL_law_308 dL_law_310 dL_law_311 dL_law_312 ?_
  refine l_read (i := i) (k := 3) hx hb hX hbl hbA S.2.2.2.1 hl (k0 := 0) (k4 := 4) rfl rfl (by decide) (by omega) hL dL_law_313 dL_law_314 dL_law_316 dL_law_317 dL_law_318 ?_
  refine l_read (i := i) (k := 4) hx hb hX hbl hbA S.2.2.2.1 hl (k0 := 0) (k4 := 4) rfl rfl (by decide) (by omega) hL dL_law_319 dL_law_320 dL_law_322 dL_law_323 dL_law_324 ?_
  refine l_bool hx hb dL_law_325 dL_law_328 dL_law_329 dL_law_332 ?_
  refine g_callVl (As := [.int (xs (i + 1)), .int (xs (i + 2)), .int (xs (i + 3)), .int (nI (bz (xs (i + 4))))]) (rest := []) F S (c_X8_fullest l G ((xs (i + 1))) ((xs (i + 2))) ((xs (i + 3))) ((nI (bz (xs (i + 4))))) _ e8) (cwV 4 hg (goodV t_co_X8_fullest t_ml_L_37 t_im_X8_fullest t_se_X8_fullest t_in_X8) rfl rfl rfl (by decide +kernel) ⟨Nat.le_of_ble_eq_true rfl, Nat.le_of_ble_eq_true rfl⟩) (S.obj (k := 0) (by decide) (by decide) rfl (oc_X8 _ _ _ (by decide))) rfl hl.1 rfl (Nat.le_of_ble_eq_true rfl) ⟨Nat.le_trans (Nat.le_add_right _ _) hc.1, Nat.le_trans (Nat.le_add_right _ _) hc.2⟩ dL_law_333 (fun H locs S => ?_)
  have S : St G w1 s H locs := S
  refine lv_aload_n hx hb dL_law_336 rfl (lv_at hl 2 rfl) ?_
  refine l_read (i := i) (k := 1) hx hb hX hbl hbA S.2.2.2.1 hl (k0 := 0) (k4 := 4) rfl rfl (by decide) (by omega) hL dL_law_337 dL_law_338 dL_law_340 dL_law_341 dL_law_342 ?_
  refine l_read (i := i) (k := 2) hx hb hX hbl hbA S.2.2.2.1 hl (k0 := 0) (k4 := 4) rfl rfl (by decide) (by omega) hL dL_law_343 dL_law_344 dL_law_346 dL_law_347 dL_law_348 ?_
  refine l_read (i := i) (k := 3) hx hb hX hbl hbA S.2.2.2.1 hl (k0 := 0) (k4 := 4) rfl rfl (by decide) (by omega) hL dL_law_349 dL_law_350 dL_law_352 dL_law_353 dL_law_354 ?_
  refine l_read (i := i) (k := 4) hx hb hX hbl hbA S.2.2.2.1 hl (k0 := 0) (k4 := 4) rfl rfl (by decide) (by omega) hL dL_law_355 dL_law_356 dL_law_358 dL_law_359 dL_law_360 ?_
  refine l_bool hx hb dL_law_361 dL_law_364 dL_law_365 dL_law_368 ?_
  refine g_callVl (As := [.int (xs (i + 1)), .int (xs (i + 2)), .int (xs (i + 3)), .int (nI (bz (xs (i + 4))))]) (rest := [.long v]) F S (c_X9_fullest l G ((xs (i + 1))) ((xs (i + 2))) ((xs (i + 3))) ((nI (bz (xs (i + 4))))) _ e9) (cwV 4 hg (goodV t_co_X9_fullest t_ml_L_41 t_im_X9_fullest t_se_X9_fullest t_in_X9) rfl rfl rfl (by decide +kernel) ⟨Nat.le_of_ble_eq_true rfl, Nat.le_of_ble_eq_true rfl⟩) (S.obj (k := 130) (by decide) (by decide) rfl (oc_X9 _ _ _ (by decide))) rfl hl.1 rfl (Nat.le_of_ble_eq_true rfl) ⟨Nat.le_trans (Nat.le_add_right _ _) hc.1, Nat.le_trans (Nat.le_add_right _ _) hc.2⟩ dL_law_369 (fun H locs S => ?_)
  have S : St G w2 s H locs := S
  refine W.lcmp hx hb dL_law_372 ?_
  refine lv_if_eq (tgt := 1456) hx hb dL_law_373 (by decide) (fun _ => ?_) (fun q => absurd (cmp_eq9 v) q)
  refine W.widen (k := cells + 6) (n := slots + 6) (Nat.le_add_right _ _) (Nat.le_add_right _ _) ?_
  exact kk w2 H locs ls J2 S hl
set_option maxHeartbeats 4000000 in
theorem arm_5 (C0 : lw_At p s m meth c b L xs) (hbA : ¬ gA G b) (hL : L ≤ 3072) (hi : i + 6 ≤ L) (J : JJ w) (S : St G w s H locs) (hl : lv_has ls 7 (lwL G b i)) (hc : cells + 6 ≤ 601024 ∧ slots + 6 ≤ 7293034) (kk : lwKK p l e s m below meth c b i cells slots Q G) : W p l e room_1 s m #[Value.ref b] below meth c H locs cells slots Q (F0 m 378 ls []) := by
  obtain ⟨hx, hb, hr, hml, hown, hts, hX, hbl, hlocks, hgv⟩ := C0
  have hg : ∀ q ∈ lwg, q.before #[Value.ref b] s = true := fun q h => hts q (List.mem_filter.mp h).1
  have F : CallFix p m c cL_law 7 s #[Value.ref b] lwg RL := ⟨hx, hb, hml, hown, hg⟩
  obtain ⟨v, w1, w2, e8, e9, J2⟩ := s_empty J (xs (i + 1)) (xs (i + 2)) (xs (i + 3)) (bz_01 (xs (i + 4)))
  refine lv_aload_n hx hb dL_law_378 rfl (lv_at hl 1 rfl) ?_
  refine l_read (i := i) (k := 1) hx hb hX hbl hbA S.2.2.2.1 hl (k0 := 0) (k4 := 4) rfl rfl (by decide) (by omega) hL dL_law_379 dL_law_380 dL_law_382 dL_law_383 dL_law_384 ?_
  refine l_read (i := i) (k := 2) hx hb hX hbl hbA S.2.2.2.1 hl (k0 := 0) (k4 := 4) rfl rfl (by decide) (by omega) hL dL_law_385 dL_law_386 dL_law_388 dL_law_389 dL_law_390 ?_
  refine l_read (i := i) (k := 3) hx hb hX hbl hbA S.2.2.2.1 hl (k0 := 0) (k4 := 4) rfl rfl (by decide) (by omega) hL dL_law_391 dL_law_392 dL_law_394 dL_law_395 dL_law_396 ?_
  refine l_read (i := i) (k := 4) hx hb hX hbl hbA S.2.2.2.1 hl (k0 := 0) (k4 := 4) rfl rfl (by decide) (by omega) hL dL_law_397 dL_law_398 dL_law_400 dL_law_401 dL_law_402 ?_
  refine l_bool hx hb dL_law_403 dL_law_406 dL_law_407 dL_law_410 ?_
  refine g_callVl (As := [.int (xs (i + 1)), .int (xs (i + 2)), .int (xs (i + 3)), .int (nI (bz (xs (i + 4))))]) (rest := []) F S (c_X8_empty l G ((xs (i + 1))) ((xs (i + 2))) ((xs (i + 3))) ((nI (bz (xs (i + 4))))) _ e8) (cwV 4 hg (goodV t_co_X8_empty t_ml_L_42 t_im_X8_empty t_se_X8_empty t_in_X8) rfl rfl rfl (by decide +kernel) ⟨Nat.le_of_ble_eq_true rfl, Nat.le_of_ble_eq_true rfl⟩) (S.obj (k := 0) (by decide) (by decide) rfl (oc_X8 _ _ _ (by decide))) rfl hl.1 rfl (Nat.le_of_ble_eq_true rfl) ⟨Nat.le_trans (Nat.le_add_right _ _) hc.1, Nat.le_trans (Nat.le_add_right _ _) hc.2⟩ dL_law_411 (fun H locs S => ?_)
  have S : St G w1 s H locs := S
  refine lv_aload_n hx hb dL_law_414 rfl (lv_at hl 2 rfl) ?_
  refine l_read (i := i) (k := 1) hx hb hX hbl hbA S.2.2.2.1 hl (k0 := 0) (k4 := 4) rfl rfl (by decide) (by omega) hL dL_law_415 dL_law_416 dL_law_418 dL_law_419 dL_law_420 ?_
  refine l_read (i := i) (k := 2) hx hb hX hbl hbA S.2.2.2.1 hl (k0 := 0) (k4 := 4) rfl rfl (by decide) (by omega) hL dL_law_421 dL_law_422 dL_law_424 dL_law_425 dL_law_426 ?_
  refine l_read (i := i) (k := 3) hx hb hX hbl hbA S.2.2.2.1 hl (k0 := 0) (k4 := 4) rfl rfl (by decide) (by omega) hL dL_law_427 dL_law_428 dL_law_430 dL_law_431 dL_law_432 ?_
  refine l_read (i := i) (k := 4) hx hb hX hbl hbA S.2.2.2.1 hl (k0 := 0) (k4 := 4) rfl rfl (by decide) (by omega) hL dL_law_433 dL_law_434 dL_law_436 dL_law_437 dL_law_438 ?_
  refine l_bool hx hb dL_law_439 dL_law_442 dL_law_443 dL_law_446 ?_
  refine g_callVl (As := [.int (xs (i + 1)), .int (xs (i + 2)), .int (xs (i + 3)), .int (nI (bz (xs (i + 4))))]) (rest := [.long v]) F S (c_X9_empty l G ((xs (i + 1))) ((xs (i + 2))) ((xs (i + 3))) ((nI (bz (xs (i + 4))))) _ e9) (cwV 4 hg (goodV t_co_X9_empty t_ml_L_45 t_im_X9_empty t_se_X9_empty t_in_X9) rfl rfl rfl (by decide +kernel) ⟨Nat.le_of_ble_eq_true rfl, Nat.le_of_ble_eq_true rfl⟩) (S.obj (k := 130) (by decide) (by decide) rfl (oc_X9 _ _ _ (by decide))) rfl hl.1 rfl (Nat.le_of_ble_eq_true rfl) ⟨Nat.le_trans (Nat.le_add_right _ _) hc.1, Nat.le_trans (Nat.le_add_right _ _) hc.2⟩ dL_law_447 (fun H locs S => ?_)
  have S : St G w2 s H locs := S
  refine W.lcmp hx hb dL_law_450 ?_
  refine lv_if_eq (tgt := 1456) hx hb dL_law_451 (by decide) (fun _ => ?_) (fun q => absurd (cmp_eq9 v) q)
  refine W.widen (k := cells + 6) (n := slots + 6) (Nat.le_add_right _ _) (Nat.le_add_right _ _) ?_
  exact kk w2 H locs ls J2 S hl
set_option maxHeartbeats 4000000 in
theorem arm_6 (C0 : lw_At p s m meth c b L xs) (hbA : ¬ gA G b) (hL : L ≤ 3072) (hi : i + 6 ≤ L) (J : JJ w) (S : St G w s H locs) (hl : lv_has ls 7 (lwL G b i)) (hc : cells + 6 ≤ 601024 ∧ slots + 6 ≤ 7293034) (kk : lwKK p l e s m below meth c b i cells slots Q G) : W p l e room_1 s m #[Value.ref b] below meth c H locs cells slots Q (F0 m 456 ls []) := by
  obtain ⟨hx, hb, hr, hml, hown, hts, hX, hbl, hlocks, hgv⟩ := C0
  have hg : ∀ q ∈ lwg, q.before #[Value.ref b] s = true := fun q h => hts q (List.mem_filter.mp h).1
  have F : CallFix p m c cL_law 7 s #[Value.ref b] lwg RL := ⟨hx, hb, hml, hown, hg⟩
  obtain ⟨v, w1, w2, e8, e9, J2⟩ := s_holds J (xs (i + 1)) (xs (i + 2)) (xs (i + 3)) (xs (i + 4)) (bz_01 (xs (i + 5)))
  refine lv_aload_n hx hb dL_law_456 rfl (lv_at hl 1 rfl) ?_
  refine l_read (i := i) (k := 1) hx hb hX hbl hbA S.2.2.2.1 hl (k0 := 0) (k4 := 4) rfl rfl (by decide) (by omega) hL dL_law_457 dL_law_458 dL_law_460 dL_law_461 dL_law_462 ?_
  refine l_read (i := i) (k := 2) hx hb hX hbl hbA S.2.2.2.1 hl (k0 := 0) (k4 := 4) rfl rfl (by decide) (by omega) hL dL_law_463 dL_law_464 dL_law_466 dL_law_467 dL_law_468 ?_
  refine l_read (i := i) (k := 3) hx hb hX hbl hbA S.2.2.2.1 hl (k0 := 0) (k4 := 4) rfl rfl (by decide) (by omega) hL dL_law_469 dL_law_470 dL_law_472 dL_law_473 dL_law_474 ?_
  refine l_read (i := i) (k := 4) hx hb hX hbl hbA S.2.2.2.1 hl (k0 := 0) (k4 := 4) rfl rfl (by decide) (by omega) hL dL_law_475 dL_law_476 dL_law_478 dL_law_479 dL_law_480 ?_
  refine l_read (i := i) (k := 5) hx hb hX hbl hbA S.2.2.2.1 hl (k0 := 0) (k4 := 4) rfl rfl (by decide) (by omega) hL dL_law_481 dL_law_482 dL_law_484 dL_law_485 dL_law_486 ?_
  refine l_bool hx hb dL_law_487 dL_law_490 dL_law_491 dL_law_494 ?_
  refine g_callVl (As := [.int (xs (i + 1)), .int (xs (i + 2)), .int (xs (i + 3)), .int (xs (i + 4)), .int (nI (bz (xs (i + 5))))]) (rest := []) F S (c_X8_holds l G ((xs (i + 1))) ((xs (i + 2))) ((xs (i + 3))) ((xs (i + 4))) ((nI (bz (xs (i + 5))))) _ e8) (cwV 5 hg (goodV t_co_X8_holds t_ml_L_46 t_im_X8_holds t_se_X8_holds t_in_X8) rfl rfl rfl (by decide +kernel) ⟨Nat.le_of_ble_eq_true rfl, Nat.le_of_ble_eq_true rfl⟩) (S.obj (k := 0) (by decide) (by decide) rfl (oc_X8 _ _ _ (by decide))) rfl hl.1 rfl (Nat.le_of_ble_eq_true rfl) ⟨Nat.le_trans (Nat.le_add_right _ _) hc.1, Nat.le_trans (Nat.le_add_right _ _) hc.2⟩ dL_law_495 (fun H locs S => ?_)
  have S : St G w1 s H locs := S
  refine lv_aload_n hx hb dL_law_498 rfl (lv_at hl 2 rfl) ?_
  refine l_read (i := i) (k := 1) hx hb hX hbl hbA S.2.2.2.1 hl (k0 := 0) (k4 := 4) rfl rfl (by decide) (by omega) hL dL_law_499 dL_law_500 dL_law_502 dL_law_503 dL_law_504 ?_
  refine l_read (i := i) (k := 2) hx hb hX hbl hbA S.2.2.2.1 hl (k0 := 0) (k4 := 4) rfl rfl (by decide) (by omega) hL dL_law_505 dL_law_506 dL_law_508 dL_law_509 dL_law_510 ?_
  refine l_read (i := i) (k := 3) hx hb hX hbl hbA S.2.2.2.1 hl (k0 := 0) (k4 := 4) rfl rfl (by decide) (by omega) hL dL_law_511 dL_law_512 dL_law_514 dL_law_515 dL_law_516 ?_
  refine l_read (i := i) (k := 4) hx hb hX hbl hbA S.2.2.2.1 hl (k0 := 0) (k4 := 4) rfl rfl (by decide) (by omega) hL dL_law_517 dL_law_518 dL_law_520 dL_law_521 dL_law_522 ?_
  refine l_read (i := i) (k := 5) hx hb hX hbl hbA S.2.2.2.1 hl (k0 := 0) (k4 := 4) rfl rfl (by decide) (by omega) hL dL_law_523 dL_law_524 dL_law_526 dL_law_527 dL_law_528 ?_
  refine l_bool hx hb dL_law_529 dL_law_532 dL_law_533 dL_law_536 ?_
  refine g_callVl (As := [.int (xs (i + 1)), .int (xs (i + 2)), .int (xs (i + 3)), .int (xs (i + 4)), .int (nI (bz (xs (i + 5))))]) (rest := [.long v]) F S (c_X9_holds l G ((xs (i + 1))) ((xs (i + 2))) ((xs (i + 3))) ((xs (i + 4))) ((nI (bz (xs (i + 5))))) _ e9) (cwV 5 hg (goodV t_co_X9_holds t_ml_L_50 t_im_X9_holds t_se_X9_holds t_in_X9) rfl rfl rfl (by decide +kernel) ⟨Nat.le_of_ble_eq_true rfl, Nat.le_of_ble_eq_true rfl⟩) (S.obj (k := 130) (by decide) (by decide) rfl (oc_X9 _ _ _ (by decide))) rfl hl.1 rfl (Nat.le_of_ble_eq_true rfl) ⟨Nat.le_trans (Nat.le_add_right _ _) hc.1, Nat.le_trans (Nat.le_add_right _ _) hc.2⟩ dL_law_537 (fun H locs S => ?_)
  have S : St G w2 s H locs := S
  refine W.lcmp hx hb dL_law_540 ?_
  refine lv_if_eq (tgt := 1456) hx hb dL_law_541 (by decide) (fun _ => ?_) (fun q => absurd (cmp_eq9 v) q)
  refine W.widen (k := cells + 6) (n := slots + 6) (Nat.le_add_right _ _) (Nat.le_add_right _ _) ?_
  exact kk w2 H locs ls J2 S hl
set_option maxHeartbeats 4000000 in
theorem arm_7 (C0 : lw_At p s m meth c b L xs) (hbA : ¬ gA G b) (hL : L ≤ 3072) (hi : i + 6 ≤ L) (J : JJ w) (S : St G w s H locs) (hl : lv_has ls 7 (lwL G b i)) (hc : cells + 6 ≤ 601024 ∧ slots + 6 ≤ 7293034) (kk : lwKK p l e s m below meth c b i cells slots Q G) : W p l e room_1 s m #[Value.ref b] below meth c H locs cells slots Q (F0 m 546 ls []) := by
  obtain ⟨hx, hb, hr, hml, hown, hts, hX, hbl, hlocks, hgv⟩ := C0
  have hg : ∀ q ∈ lwg, q.before #[Value.ref b] s = true := fun q h => hts q (List.mem_filter.mp h).1
  have F : CallFix p m c cL_law 7 s #[Value.ref b] lwg RL := ⟨hx, hb, hml, hown, hg⟩
  obtain ⟨v, w1, w2, e8, e9, J2⟩ := s_mean J (xs (i + 1)) (xs (i + 2)) (xs (i + 3)) (bz_01 (xs (i + 4)))
  refine lv_aload_n hx hb dL_law_546 rfl (lv_at hl 1 rfl) ?_
  refine l_read (i := i) (k := 1) hx hb hX hbl hbA S.2.2.2.1 hl (k0 := 0) (k4 := 4) rfl rfl (by decide) (by omega) hL dL_law_547 dL_law_548 dL_law_550 dL_law_551 dL_law_552 ?_
  refine l_read (i := i) (k := 2) hx hb hX hbl hbA S.2.2.2.1 hl (k0 := 0) (k4 := 4) rfl rfl (by decide) (by omega) hL dL_law_553 dL_law_554 dL_law_556 dL_law_557 dL_law_558 ?_
  refine l_read (i := i) (k := 3) hx hb hX hbl hbA S.2.2.2.1 hl (k0 := 0) (k4 := 4) rfl rfl (by decide) (by omega) hL dL_law_559 dL_law_560 dL_law_562 dL_law_563 dL_law_564 ?_
  refine l_read (i := i) (k := 4) hx hb hX hbl hbA S.2.2.2.1 hl (k0 := 0) (k4 := 4) rfl rfl (by decide) (by omega) hL dL_law_565 dL_law_566 dL_law_568 dL_law_569 dL_law_570 ?_
  refine l_bool hx hb dL_law_571 dL_law_574 dL_law_575 dL_law_578 ?_
  refine g_callVl (As := [.int (xs (i + 1)), .int (xs (i + 2)), .int (xs (i + 3)), .int (nI (bz (xs (i + 4))))]) (rest := []) F S (c_X8_mean l G ((xs (i + 1))) ((xs (i + 2))) ((xs (i + 3))) ((nI (bz (xs (i + 4))))) _ e8) (cwV 4 hg (goodV t_co_X8_mean t_ml_L_51 t_im_X8_mean t_se_X8_mean t_in_X8) rfl rfl rfl (by decide +kernel) ⟨Nat.le_of_ble_eq_true rfl, Nat.le_of_ble_eq_true rfl⟩) (S.obj (k := 0) (by decide) (by decide) rfl (oc_X8 _ _ _ (by decide))) rfl hl.1 rfl (Nat.le_of_ble_eq_true rfl) ⟨Nat.le_trans (Nat.le_add_right _ _) hc.1, Nat.le_trans (Nat.le_add_right _ _) hc.2⟩ dL_law_579 (fun H locs S => ?_)
  have S : St G w1 s H locs := S
  refine lv_aload_n hx hb dL_law_582 rfl (lv_at hl 2 rfl) ?_
  refine l_read (i := i) (k := 1) hx hb hX hbl hbA S.2.2.2.1 hl (k0 := 0) (k4 := 4) rfl rfl (by decide) (by omega) hL dL_law_583 dL_law_584 dL_law_586 dL_law_587 dL_law_588 ?_
  refine l_read (i := i) (k := 2) hx hb hX hbl hbA S.2.2.2.1 hl (k0 := 0) (k4 := 4) rfl rfl (by decide) (by omega) hL dL_law_589 dL_law_590 dL_law_592 dL_law_593 dL_law_594 ?_
  refine l_read (i := i) (k := 3) hx hb hX hbl hbA S.2.2.2.1 hl (k0 := 0) (k4 := 4) rfl rfl (by decide) (by omega) hL dL_law_595 dL_law_596 dL_law_598 dL_law_599 dL_law_600 ?_
  refine l_read (i := i) (k := 4) hx hb hX hbl hbA S.2.2.2.1 hl (k0 := 0) (k4 := 4) rfl rfl (by decide) (by omega) hL dL_law_601 dL_law_602 dL_law_604 dL_law_605 dL_law_606 ?_
  refine l_bool hx hb dL_law_607 dL_law_610 dL_law_611 dL_law_614 ?_
  refine g_callVl (As := [.int (xs (i + 1)), .int (xs (i + 2)), .int (xs (i + 3)), .int (nI (bz (xs (i + 4))))]) (rest := [.long v]) F S (c_X9_mean l G ((xs (i + 1))) ((xs (i + 2))) ((xs (i + 3))) ((nI (bz (xs (i + 4))))) _ e9) (cwV 4 hg (goodV t_co_X9_mean t_ml_L_54 t_im_X9_mean t_se_X9_mean t_in_X9) rfl rfl rfl (by decide +kernel) ⟨Nat.le_of_ble_eq_true rfl, Nat.le_of_ble_eq_true rfl⟩) (S.obj (k := 130) (by decide) (by decide) rfl (oc_X9 _ _ _ (by decide))) rfl hl.1 rfl (Nat.le_of_ble_eq_true rfl) ⟨Nat.le_trans (Nat.le_add_right _ _) hc.1, Nat.le_trans (Nat.le_add_right _ _) hc.2⟩ dL_law_615 (fun H locs S => ?_)
  have S : St G w2 s H locs := S
  refine W.lcmp hx hb dL_law_618 ?_
  refine lv_if_eq (tgt := 1456) hx hb dL_law_619 (by decide) (fun _ => ?_) (fun q => absurd (cmp_eq9 v) q)
  refine W.widen (k := cells + 6) (n := slots + 6) (Nat.le_add_right _ _) (Nat.le_add_right _ _) ?_
  exact kk w2 H locs ls J2 S hl
set_option maxHeartbeats 4000000 in
theorem arm_8 (C0 : lw_At p s m meth c b L xs) (hbA : ¬ gA G b) (hL : L ≤ 3072) (hi : i + 6 ≤ L) (J : JJ w) (S : St G w s H locs) (hl : lv_has ls 7 (lwL G b i)) (hc : cells + 6 ≤ 601024 ∧ slots + 6 ≤ 7293034) (kk : lwKK p l e s m below meth c b i cells slots Q G) : W p l e room_1 s m #[Value.ref b] below meth c H locs cells slots Q (F0 m 624 ls []) := by
  obtain ⟨hx, hb, hr, hml, hown, hts, hX, hbl, hlocks, hgv⟩ := C0
  have hg : ∀ q ∈ lwg, q.before #[Value.ref b] s = true := fun q h => hts q (List.mem_filter.mp h).1
  have F : CallFix p m c cL_law 7 s #[Value.ref b] lwg RL := ⟨hx, hb, hml, hown, hg⟩
  obtain ⟨v, w1, w2, e8, e9, J2⟩ := s_states J (xs (i + 1)) (xs (i + 2))
  refine lv_aload_n hx hb dL_law_624 rfl (lv_at hl 1 rfl) ?_
  refine l_read (i := i) (k := 1) hx hb hX hbl hbA S.2.2.2.1 hl (k0 := 0) (k4 := 4) rfl rfl (by decide) (by omega) hL dL_law_625 dL_law_626 dL_law_628 dL_law_629 dL_law_630 ?_
  refine l_read (i := i) (k := 2) hx hb hX hbl hbA S.2.2.2.1 hl (k0 := 0) (k4 := 4) rfl rfl (by decide) (by omega) hL dL_law_631 dL_law_632 dL_law_634 dL_law_635 dL_law_636 ?_
  refine g_callVi (As := [.int (xs (i + 1)), .int (xs (i + 2))]) (rest := []) F S (c_X8_states l G ((xs (i + 1))) ((xs (i + 2))) _ e8) (cwV 2 hg (goodV t_co_X8_states t_ml_L_55 t_im_X8_states t_se_X8_states t_in_X8) rfl rfl rfl (by decide +kernel) ⟨Nat.le_of_ble_eq_true rfl, Nat.le_of_ble_eq_true rfl⟩) (S.obj (k := 0) (by decide) (by decide) rfl (oc_X8 _ _ _ (by decide))) rfl hl.1 rfl (Nat.le_of_ble_eq_true rfl) ⟨Nat.le_trans (Nat.le_add_right _ _) hc.1, Nat.le_trans (Nat.le_add_right _ _) hc.2⟩ dL_law_637 (fun H locs S => ?_)
  have S : St G w1 s H locs := S
  refine lv_aload_n hx hb dL_law_640 rfl (lv_at hl 2 rfl) ?_
  refine l_read (i := i) (k := 1) hx hb hX hbl hbA S.2.2.2.1 hl (k0 := 0) (k4 := 4) rfl rfl (by decide) (by omega) hL dL_law_641 dL_law_642 dL_law_644 dL_law_645 dL_law_646 ?_
  refine l_read (i := i) (k := 2) hx hb hX hbl hbA S.2.2.2.1 hl (k0 := 0) (k4 := 4) rfl rfl (by decide) (by omega) hL dL_law_647 dL_law_648 dL_law_650 dL_law_651 dL_law_652 ?_
  refine g_callVi (As := [.int (xs (i + 1)), .int (xs (i + 2))]) (rest := [.int v]) F S (c_X9_states l G ((xs (i + 1))) ((xs (i + 2))) _ e9) (cwV 2 hg (goodV t_co_X9_states t_ml_L_59 t_im_X9_states t_se_X9_states t_in_X9) rfl rfl rfl (by decide +kernel) ⟨Nat.le_of_ble_eq_true rfl, Nat.le_of_ble_eq_true rfl⟩) (S.obj (k := 130) (by decide) (by decide) rfl (oc_X9 _ _ _ (by decide))) rfl hl.1 rfl (Nat.le_of_ble_eq_true rfl) ⟨Nat.le_trans (Nat.le_add_right _ _) hc.1, Nat.le_trans (Nat.le_add_right _ _) hc.2⟩ dL_law_653 (fun H locs S => ?_)
  have S : St G w2 s H locs := S
  refine lv_icmp_eq (tgt := 1456) hx hb dL_law_656 (by decide) (fun _ => ?_) (fun q => absurd rfl q)
  refine W.widen (k := cells + 6) (n := slots + 6) (Nat.le_add_right _ _) (Nat.le_add_right _ _) ?_
  exact kk w2 H locs ls J2 S hl
set_option maxHeartbeats 4000000 in
theorem arm_9 (C0 : lw_At p s m meth c b L xs) (hbA : ¬ gA G b) (hL : L ≤ 3072) (hi : i + 6 ≤ L) (J : JJ w) (S : St G w s H locs) (hl : lv_has ls 7 (lwL G b i)) (hc : cells + 6 ≤ 601024 ∧ slots + 6 ≤ 7293034) (kk : lwKK p l e s m below meth c b i cells slots Q G) : W p l e room_1 s m #[Value.ref b] below meth c H locs cells slots Q (F0 m 661 ls []) := by
  obtain ⟨hx, hb, hr, hml, hown, hts, hX, hbl, hlocks, hgv⟩ := C0
  have hg : ∀ q ∈ lwg, q.before #[Value.ref b] s = true := fun q h => hts q (List.mem_filter.mp h).1
  have F : CallFix p m c cL_law 7 s #[Value.ref b] lwg RL := ⟨hx, hb, hml, hown, hg⟩
  obtain ⟨v, w1, w2, e8, e9, J2⟩ := s_worst J (xs (i + 1)) (xs (i + 2)) (bz_01 (xs (i + 3)))
  refine lv_aload_n hx hb dL_law_661 rfl (lv_at hl 1 rfl) ?_
  refine l_read (i := i) (k := 1) hx hb hX hbl hbA S.2.2.2.1 hl (k0 := 0) (k4 := 4) rfl rfl (by decide) (by omega) hL dL_law_662 dL_law_663 dL_law_665 dL_law_666 dL_law_667 ?_
  refine l_read (i := i) (k := 2) hx hb hX hbl hbA S.2.2.2.1 hl (k0 := 0) (k4 := 4) rfl rfl (by decide) (by omega) hL dL_law_668 dL_law_669 dL_law_671 dL_law_672 dL_law_673 ?_
  refine l_read (i := i) (k := 3) hx hb hX hbl hbA S.2.2.2.1 hl (k0 := 0) (k4 := 4) rfl rfl (by decide) (by omega) hL dL_law_674 dL_law_675 dL_law_677 dL_law_678 dL_law_679 ?_
  refine l_bool hx hb dL_law_680 dL_law_683 dL_law_684 dL_law_687 ?_
  refine g_callVi (As := [.int (xs (i + 1)), .int (xs (i + 2)), .int (nI (bz (xs (i + 3))))]) (rest := []) F S (c_X8_worst l G ((xs (i + 1))) ((xs (i + 2))) ((nI (bz (xs (i + 3))))) _ e8) (cwV 3 hg (goodV t_co_X8_worst t_ml_L_60 t_im_X8_worst t_se_X8_worst t_in_X8) rfl rfl rfl (by decide +kernel) ⟨Nat.le_of_ble_eq_true rfl, Nat.le_of_ble_eq_true rfl⟩) (S.obj (k := 0) (by decide) (by decide) rfl (oc_X8 _ _ _ (by decide))) rfl hl.1 rfl (Nat.le_of_ble_eq_true rfl) ⟨Nat.le_trans (Nat.le_add_right _ _) hc.1, Nat.le_trans (Nat.le_add_right _ _) hc.2⟩ dL_law_688 (fun H locs S => ?_)
  have S : St G w1 s H locs := S
  refine lv_aload_n hx hb dL_law_691 rfl (lv_at hl 2 rfl) ?_
  refine l_read (i := i) (k := 1) hx hb hX hbl hbA S.2.2.2.1 hl (k0 := 0) (k4 := 4) rfl rfl (by decide) (by omega) hL dL_law_692 dL_law_693 dL_law_695 dL_law_696 dL_law_697 ?_
  refine l_read (i := i) (k := 2) hx hb hX hbl hbA S.2.2.2.1 hl (k0 := 0) (k4 := 4) rfl rfl (by decide) (by omega) hL dL_law_698 dL_law_699 dL_law_701 dL_law_702 dL_law_703 ?_
  refine l_read (i := i) (k := 3) hx hb hX hbl hbA S.2.2.2.1 hl (k0 := 0) (k4 := 4) rfl rfl (by decide) (by omega) hL dL_law_704 dL_law_705 dL_law_707 dL_law_708 dL_law_709 ?_
  refine l_bool hx hb dL_law_710 dL_law_713 dL_law_714 dL_law_717 ?_
  refine g_callVi (As := [.int (xs (i + 1)), .int (xs (i + 2)), .int (nI (bz (xs (i + 3))))]) (rest := [.int v]) F S (c_X9_worst l G ((xs (i + 1))) ((xs (i + 2))) ((nI (bz (xs (i + 3))))) _ e9) (cwV 3 hg (goodV t_co_X9_worst t_ml_L_64 t_im_X9_worst t_se_X9_worst t_in_X9) rfl rfl rfl (by decide +kernel) ⟨Nat.le_of_ble_eq_true rfl, Nat.le_of_ble_eq_true rfl⟩) (S.obj (k := 130) (by decide) (by decide) rfl (oc_X9 _ _ _ (by decide))) rfl hl.1 rfl (Nat.le_of_ble_eq_true rfl) ⟨Nat.le_trans (Nat.le_add_right _ _) hc.1, Nat.le_trans (Nat.le_add_right _ _) hc.2⟩ dL_law_718 (fun H locs S => ?_)
  have S : St G w2 s H locs := S
  refine lv_icmp_eq (tgt := 1456) hx hb dL_law_721 (by decide) (fun _ => ?_) (fun q => absurd rfl q)
  refine W.widen (k := cells + 6) (n := slots + 6) (Nat.le_add_right _ _) (Nat.le_add_right _ _) ?_
  exact kk w2 H locs ls J2 S hl
set_option maxHeartbeats 4000000 in
theorem arm_10 (C0 : lw_At p s m meth c b L xs) (hbA : ¬ gA G b) (hL : L ≤ 3072) (hi : i + 6 ≤ L) (J : JJ w) (S : St G w s H locs) (hl : lv_has ls 7 (lwL G b i)) (hc : cells + 6 ≤ 601024 ∧ slots + 6 ≤ 7293034) (kk : lwKK p l e s m below meth c b i cells slots Q G) : W p l e room_1 s m #[Value.ref b] below meth c H locs cells slots Q (F0 m 726 ls []) := by
  obtain ⟨hx, hb, hr, hml, hown, hts, hX, hbl, hlocks, hgv⟩ := C0
  have hg : ∀ q ∈ lwg, q.before #[Value.ref b] s = true := fun q h => hts q (List.mem_filter.mp h).1
  have F : CallFix p m c cL_law 7 s #[Value.ref b] lwg RL := ⟨hx, hb, hml, hown, hg⟩
  obtain ⟨v, w1, w2, e8, e9, J2⟩ := s_lies J (xs (i + 1)) (xs (i + 2)) (bz_01 (xs (i + 3)))
  refine lv_aload_n hx hb dL_law_726 rfl (lv_at hl 1 rfl) ?_
  refine l_read (i := i) (k := 1) hx hb hX hbl hbA S.2.2.2.1 hl (k0 := 0) (k4 := 4) rfl rfl (by decide) (by omega) hL dL_law_727 dL_law_728 dL_law_730 dL_law_731 dL_law_732 ?_
  refine l_read (i := i) (k := 2) hx hb hX hbl hbA S.2.2.2.1 hl (k0 := 0) (k4 := 4) rfl rfl (by decide) (by omega) hL dL_law_733 dL_law_734 dL_law_736 dL_law_737 dL_law_738 ?_
  refine l_read (i := i) (k := 3) hx hb hX hbl hbA S.2.2.2.1 hl (k0 := 0) (k4 := 4) rfl rfl (by decide) (by omega) hL dL_law_739 dL_law_740 dL_law_742 dL_law_743 dL_law_744 ?_
  refine l_bool hx hb dL_law_745 dL_law_748 dL_law_749 dL_law_752 ?_
  refine g_callVl (As := [.int (xs (i + 1)), .int (xs (i + 2)), .int (nI (bz (xs (i + 3))))]) (rest := []) F S (c_X8_lies l G ((xs (i + 1))) ((xs (i + 2))) ((nI (bz (xs (i + 3))))) _ e8) (cwV 3 hg (goodV t_co_X8_lies t_ml_L_65 t_im_X8_lies t_se_X8_lies t_in_X8) rfl rfl rfl (by decide +kernel) ⟨Nat.le_of_ble_eq_true rfl, Nat.le_of_ble_eq_true rfl⟩) (S.obj (k := 0) (by decide) (by decide) rfl (oc_X8 _ _ _ (by decide))) rfl hl.1 rfl (Nat.le_of_ble_eq_true rfl) ⟨Nat.le_trans (Nat.le_add_right _ _) hc.1, Nat.le_trans (Nat.le_add_right _ _) hc.2⟩ dL_law_753 (fun H locs S => ?_)
  have S : St G w1 s H locs := S
  refine lv_aload_n hx hb dL_law_756 rfl (lv_at hl 2 rfl) ?_
  refine l_read (i := i) (k := 1) hx hb hX hbl hbA S.2.2.2.1 hl (k0 := 0) (k4 := 4) rfl rfl (by decide) (by omega) hL dL_law_757 dL_law_758 dL_law_760 dL_law_761 dL_law_762 ?_
  refine l_read (i := i) (k := 2) hx hb hX hbl hbA S.2.2.2.1 hl (k0 := 0) (k4 := 4) rfl rfl (by decide) (by omega) hL dL_law_763 dL_law_764 dL_law_766 dL_law_767 dL_law_768 ?_
  refine l_read (i := i) (k := 3) hx hb hX hbl hbA S.2.2.2.1 hl (k0 := 0) (k4 := 4) rfl rfl (by decide) (by omega) hL dL_law_769 dL_law_770 dL_law_772 dL_law_773 dL_law_774 ?_
  refine l_bool hx hb dL_law_775 dL_law_778 dL_law_779 dL_law_782 ?_
  refine g_callVl (As := [.int (xs (i + 1)), .int (xs (i + 2)), .int (nI (bz (xs (i + 3))))]) (rest := [.long v]) F S (c_X9_lies l G ((xs (i + 1))) ((xs (i + 2))) ((nI (bz (xs (i + 3))))) _ e9) (cwV 3 hg (goodV t_co_X9_lies t_ml_L_69 t_im_X9_lies t_se_X9_lies t_in_X9) rfl rfl rfl (by decide +kernel) ⟨Nat.le_of_ble_eq_true rfl, Nat.le_of_ble_eq_true rfl⟩) (S.obj (k := 130) (by decide) (by decide) rfl (oc_X9 _ _ _ (by decide))) rfl hl.1 rfl (Nat.le_of_ble_eq_true rfl) ⟨Nat.le_trans (Nat.le_add_right _ _) hc.1, Nat.le_trans (Nat.le_add_right _ _) hc.2⟩ dL_law_783 (fun H locs S => ?_)
  have S : St G w2 s H locs := S
  refine W.lcmp hx hb dL_law_786 ?_
  refine lv_if_eq (tgt := 1456) hx hb dL_law_787 (by decide) (fun _ => ?_) (fun q => absurd (cmp_eq9 v) q)
  refine W.widen (k := cells + 6) (n := slots + 6) (Nat.le_add_right _ _) (Nat.le_add_right _ _) ?_
  exact kk w2 H locs ls J2 S hl
set_option maxHeartbeats 4000000 in
theorem arm_11 (C0 : lw_At p s m meth c b L xs) (hbA : ¬ gA G b) (hL : L ≤ 3072) (hi : i + 6 ≤ L) (J : JJ w) (S : St G w s H locs) (hl : lv_has ls 7 (lwL G b i)) (hc : cells + 6 ≤ 601024 ∧ slots + 6 ≤ 7293034) (kk : lwKK p l e s m below meth c b i cells slots Q G) : W p l e room_1 s m #[Value.ref b] below meth c H locs cells slots Q (F0 m 792 ls []) := by
  obtain ⟨hx, hb, hr, hml, hown, hts, hX, hbl, hlocks, hgv⟩ := C0
  have hg : ∀ q ∈ lwg, q.before #[Value.ref b] s = true := fun q h => hts q (List.mem_filter.mp h).1
  have F : CallFix p m c cL_law 7 s #[Value.ref b] lwg RL := ⟨hx, hb, hml, hown, hg⟩
  obtain ⟨v, w1, w2, e8, e9, J2⟩ := s_compare J (xs (i + 1)) (xs (i + 2)) (xs (i + 3)) (xs (i + 4))
  refine lv_aload_n hx hb dL_law_792 rfl (lv_at hl 1 rfl) ?_
  refine l_read (i := i) (k := 1) hx hb hX hbl hbA S.2.2.2.1 hl (k0 := 0) (k4 := 4) rfl rfl (by decide) (by omega) hL dL_law_793 dL_law_794 dL_law_796 dL_law_797 dL_law_798 ?_
  refine l_read (i := i) (k := 2) hx hb hX hbl hbA S.2.2.2.1 hl (k0 := 0) (k4 := 4) rfl rfl (by decide) (by omega) hL dL_law_799 dL_law_800 dL_law_802 dL_law_803 dL_law_804 ?_
  refine l_read (i := i) (k := 3) hx hb hX hbl hbA S.2.2.2.1 hl (k0 := 0) (k4 := 4) rfl rfl (by decide) (by omega) hL dL_law_805 dL_law_806 dL_law_808 dL_law_809 dL_law_810 ?_
  refine l_read (i := i) (k := 4) hx hb hX hbl hbA S.2.2.2.1 hl (k0 := 0) (k4 := 4) rfl rfl (by decide) (by omega) hL dL_law_811 dL_law_812 dL_law_814 dL_law_815 dL_law_816 ?_
  refine g_callVi (As := [.int (xs (i + 1)), .int (xs (i + 2)), .int (xs (i + 3)), .int (xs (i + 4))]) (rest := []) F S (c_X8_compare l G ((xs (i + 1))) ((xs (i + 2))) ((xs (i + 3))) ((xs (i + 4))) _ e8) (cwV 4 hg (goodV t_co_X8_compare t_ml_L_70 t_im_X8_compare t_se_X8_compare t_in_X8) rfl rfl rfl (by decide +kernel) ⟨Nat.le_of_ble_eq_true rfl, Nat.le_of_ble_eq_true rfl⟩) (S.obj (k := 0) (by decide) (by decide) rfl (oc_X8 _ _ _ (by decide))) rfl hl.1 rfl (Nat.le_of_ble_eq_true rfl) ⟨Nat.le_trans (Nat.le_add_right _ _) hc.1, Nat.le_trans (Nat.le_add_right _ _) hc.2⟩ dL_law_817 (fun H locs S => ?_)
  have S : St G w1 s H locs := S
  refine lv_aload_n hx hb dL_law_820 rfl (lv_at hl 2 rfl) ?_
  refine l_read (i := i) (k := 1) hx hb hX hbl hbA S.2.2.2.1 hl (k0 := 0) (k4 := 4) rfl rfl (by decide) (by omega) hL dL_law_821 dL_law_822 dL_law_824 dL_law_825 dL_law_826 ?_
  refine l_read (i := i) (k := 2) hx hb hX hbl hbA S.2.2.2.1 hl (k0 := 0) (k4 := 4) rfl rfl (by decide) (by omega) hL dL_law_827 dL_law_828 dL_law_830 dL_law_831 dL_law_832 ?_
  refine l_read (i := i) (k := 3) hx hb hX hbl hbA S.2.2.2.1 hl (k0 := 0) (k4 := 4) rfl rfl (by decide) (by omega) hL dL_law_833 dL_law_834 dL_law_836 dL_law_837 dL_law_838 ?_
  refine l_read (i := i) (k := 4) hx hb hX hbl hbA S.2.2.2.1 hl (k0 := 0) (k4 := 4) rfl rfl (by decide) (by omega) hL dL_law_839 dL_law_840 dL_law_842 dL_law_843 dL_law_844 ?_
  refine g_callVi (As := [.int (xs (i + 1)), .int (xs (i + 2)), .int (xs (i + 3)), .int (xs (i + 4))]) (rest := [.int v]) F S (c_X9_compare l G ((xs (i + 1))) ((xs (i + 2))) ((xs (i + 3))) ((xs (i + 4))) _ e9) (cwV 4 hg (goodV t_co_X9_compare t_ml_L_74 t_im_X9_compare t_se_X9_compare t_in_X9) rfl rfl rfl (by decide +kernel) ⟨Nat.le_of_ble_eq_true rfl, Nat.le_of_ble_eq_true rfl⟩) (S.obj (k := 130) (by decide) (by decide) rfl (oc_X9 _ _ _ (by decide))) rfl hl.1 rfl (Nat.le_of_ble_eq_true rfl) ⟨Nat.le_trans (Nat.le_add_right _ _) hc.1, Nat.le_trans (Nat.le_add_right _ _) hc.2⟩ dL_law_845 (fun H locs S => ?_)
  have S : St G w2 s H locs := S
  refine lv_icmp_eq (tgt := 1456) hx hb dL_law_848 (by decide) (fun _ => ?_) (fun q => absurd rfl q)
  refine W.widen (k := cells + 6) (n := slots + 6) (Nat.le_add_right _ _) (Nat.le_add_right _ _) ?_
  exact kk w2 H locs ls J2 S hl
set_option maxHeartbeats 4000000 in
theorem arm_12 (C0 : lw_At p s m meth c b L xs) (hbA : ¬ gA G b) (hL : L ≤ 3072) (hi : i + 6 ≤ L) (J : JJ w) (S : St G w s H locs) (hl : lv_has ls 7 (lwL G b i)) (hc : cells + 6 ≤ 601024 ∧ slots + 6 ≤ 7293034) (kk : lwKK p l e s m below meth c b i cells slots Q G) : W p l e room_1 s m #[Value.ref b] below meth c H locs cells slots Q (F0 m 853 ls []) := by
  obtain ⟨hx, hb, hr, hml, hown, hts, hX, hbl, hlocks, hgv⟩ := C0
  have hg : ∀ q ∈ lwg, q.before #[Value.ref b] s = true := fun q h => hts q (List.mem_filter.mp h).1
  have F : CallFix p m c cL_law 7 s #[Value.ref b] lwg RL := ⟨hx, hb, hml, hown, hg⟩
  obtain ⟨v, w1, w2, e8, e9, J2⟩ := s_never J (xs (i + 1)) (xs (i + 2))
  refine lv_aload_n hx hb dL_law_853 rfl (lv_at hl 1 rfl) ?_
  refine l_read (i := i) (k := 1) hx hb hX hbl hbA S.2.2.2.1 hl (k0 := 0) (k4 := 4) rfl rfl (by decide) (by omega) hL dL_law_854 dL_law_855 dL_law_857 dL_law_858 dL_law_859 ?_
  refine l_read (i := i) (k := 2) hx hb hX hbl hbA S.2.2.2.1 hl (k0 := 0) (k4 := 4) rfl rfl (by decide) (by omega) hL dL_law_860 dL_law_861 dL_law_863 dL_law_864 dL_law_865 ?_
  refine g_callVi (As := [.int (xs (i + 1)), .int (xs (i + 2))]) (rest := []) F S (c_X8_never l G ((xs (i + 1))) ((xs (i + 2))) _ e8) (cwV 2 hg (goodV t_co_X8_never t_ml_L_75 t_im_X8_never t_se_X8_never t_in_X8) rfl rfl rfl (by decide +kernel) ⟨Nat.le_of_ble_eq_true rfl, Nat.le_of_ble_eq_true rfl⟩) (S.obj (k := 0) (by decide) (by decide) rfl (oc_X8 _ _ _ (by decide))) rfl hl.1 rfl (Nat.le_of_ble_eq_true rfl) ⟨Nat.le_trans (Nat.le_add_right _ _) hc.1, Nat.le_trans (Nat.le_add_right _ _) hc.2⟩ dL_law_866 (fun H locs S => ?_)
  have S : St G w1 s H locs := S
  refine lv_aload_n hx hb dL_law_869 rfl (lv_at hl 2 rfl) ?_
  refine l_read (i := i) (k := 1) hx hb hX hbl hbA S.2.2.2.1 hl (k0 := 0) (k4 := 4) rfl rfl (by decide) (by omega) hL dL_law_870 dL_law_871 dL_law_873 dL_law_874 dL_law_875 ?_
  refine l_read (i := i) (k := 2) hx hb hX hbl hbA S.2.2.2.1 hl (k0 := 0) (k4 := 4) rfl rfl (by decide) (by omega) hL dL_law_876 dL_law_877 dL_law_879 dL_law_880 dL_law_881 ?_
  refine g_callVi (As := [.int (xs (i + 1)), .int (xs (i + 2))]) (rest := [.int v]) F S (c_X9_never l G ((xs (i + 1))) ((xs (i + 2))) _ e9) (cwV 2 hg (goodV t_co_X9_never t_ml_L_78 t_im_X9_never t_se_X9_never t_in_X9) rfl rfl rfl (by decide +kernel) ⟨Nat.le_of_ble_eq_true rfl, Nat.le_of_ble_eq_true rfl⟩) (S.obj (k := 130) (by decide) (by decide) rfl (oc_X9 _ _ _ (by decide))) rfl hl.1 rfl (Nat.le_of_ble_eq_true rfl) ⟨Nat.le_trans (Nat.le_add_right _ _) hc.1, Nat.le_trans (Nat.le_add_right _ _) hc.2⟩ dL_law_882 (fun H locs S => ?_)
  have S : St G w2 s H locs := S
  refine lv_icmp_eq (tgt := 1456) hx hb dL_law_885 (by decide) (fun _ => ?_) (fun q => absurd rfl q)
  refine W.widen (k := cells + 6) (n := slots + 6) (Nat.le_add_right _ _) (Nat.le_add_right _ _) ?_
  exact kk w2 H locs ls J2 S hl
set_option maxHeartbeats 4000000 in
theorem arm_13 (C0 : lw_At p s m meth c b L xs) (hbA : ¬ gA G b) (hL : L ≤ 3072) (hi : i + 6 ≤ L) (J : JJ w) (S : St G w s H locs) (hl : lv_has ls 7 (lwL G b i)) (hc : cells + 6 ≤ 601024 ∧ slots + 6 ≤ 7293034) (kk : lwKK p l e s m below meth c b i cells slots Q G) : W p l e room_1 s m #[Value.ref b] below meth c H locs cells slots Q (F0 m 890 ls []) := by
  obtain ⟨hx, hb, hr, hml, hown, hts, hX, hbl, hlocks, hgv⟩ := C0
  have hg : ∀ q ∈ lwg, q.before #[Value.ref b] s = true := fun q h => hts q (List.mem_filter.mp h).1
  have F : CallFix p m c cL_law 7 s #[Value.ref b] lwg RL := ⟨hx, hb, hml, hown, hg⟩
  obtain ⟨v, w1, w2, e8, e9, J2⟩ := s_best J (xs (i + 1)) (xs (i + 2)) (xs (i + 3))
  refine lv_aload_n hx hb dL_law_890 rfl (lv_at hl 1 rfl) ?_
  refine l_read (i := i) (k := 1) hx hb hX hbl hbA S.2.2.2.1 hl (k0 := 0) (k4 := 4) rfl rfl (by decide) (by omega) hL dL_law_891 dL_law_892 dL_law_894 dL_law_895 dL_law_896 ?_
  refine l_read (i := i) (k := 2) hx hb hX hbl hbA S.2.2.2.1 hl (k0 := 0) (k4 := 4) rfl rfl (by decide) (by omega) hL dL_law_897 dL_law_898 dL_law_900 dL_law_901 dL_law_902 ?_
  refine l_read (i := i) (k := 3) hx hb hX hbl hbA S.2.2.2.1 hl (k0 := 0) (k4 := 4) rfl rfl (by decide) (by omega) hL dL_law_903 dL_law_904 dL_law_906 dL_law_907 dL_law_908 ?_
  refine g_callVi (As := [.int (xs (i + 1)), .int (xs (i + 2)), .int (xs (i + 3))]) (rest := []) F S (c_X8_best l G ((xs (i + 1))) ((xs (i + 2))) ((xs (i + 3))) _ e8) (cwV 3 hg (goodV t_co_X8_best t_ml_L_79 t_im_X8_best t_se_X8_best t_in_X8) rfl rfl rfl (by decide +kernel) ⟨Nat.le_of_ble_eq_true rfl, Nat.le_of_ble_eq_true rfl⟩) (S.obj (k := 0) (by decide) (by decide) rfl (oc_X8 _ _ _ (by decide))) rfl hl.1 rfl (Nat.le_of_ble_eq_true rfl) ⟨Nat.le_trans (Nat.le_add_right _ _) hc.1, Nat.le_trans (Nat.le_add_right _ _) hc.2⟩ dL_law_909 (fun H locs S => ?_)
  have S : St G w1 s H locs := S
  refine lv_aload_n hx hb dL_law_912 rfl (lv_at hl 2 rfl) ?_
  refine l_read (i := i) (k := 1) hx hb hX hbl hbA S.2.2.2.1 hl (k0 := 0) (k4 := 4) rfl rfl (by decide) (by omega) hL dL_law_913 dL_law_914 dL_law_916 dL_law_917 dL_law_918 ?_
  refine l_read (i := i) (k := 2) hx hb hX hbl hbA S.2.2.2.1 hl (k0 := 0) (k4 := 4) rfl rfl (by decide) (by omega) hL dL_law_919 dL_law_920 dL_law_922 dL_law_923 dL_law_924 ?_
  refine l_read (i := i) (k := 3) hx hb hX hbl hbA S.2.2.2.1 hl (k0 := 0) (k4 := 4) rfl rfl (by decide) (by omega) hL dL_law_925 dL_law_926 dL_law_928 dL_law_929 dL_law_930 ?_
  refine g_callVi (As := [.int (xs (i + 1)), .int (xs (i + 2)), .int (xs (i + 3))]) (rest := [.int v]) F S (c_X9_best l G ((xs (i + 1))) ((xs (i + 2))) ((xs (i + 3))) _ e9) (cwV 3 hg (goodV t_co_X9_best t_ml_L_83 t_im_X9_best t_se_X9_best t_in_X9) rfl rfl rfl (by decide +kernel) ⟨Nat.le_of_ble_eq_true rfl, Nat.le_of_ble_eq_true rfl⟩) (S.obj (k := 130) (by decide) (by decide) rfl (oc_X9 _ _ _ (by decide))) rfl hl.1 rfl (Nat.le_of_ble_eq_true rfl) ⟨Nat.le_trans (Nat.le_add_right _ _) hc.1, Nat.le_trans (Nat.le_add_right _ _) hc.2⟩ dL_law_931 (fun H locs S => ?_)
  have S : St G w2 s H locs := S
  refine lv_icmp_eq (tgt := 1456) hx hb dL_law_934 (by decide) (fun _ => ?_) (fun q => absurd rfl q)
  refine W.widen (k := cells + 6) (n := slots + 6) (Nat.le_add_right _ _) (Nat.le_add_right _ _) ?_
  exact kk w2 H locs ls J2 S hl
set_option maxHeartbeats 4000000 in
theorem arm_14 (C0 : lw_At p s m meth c b L xs) (hbA : ¬ gA G b) (hL : L ≤ 3072) (hi : i + 6 ≤ L) (J : JJ w) (S : St G w s H locs) (hl : lv_has ls 7 (lwL G b i)) (hc : cells + 6 ≤ 601024 ∧ slots + 6 ≤ 7293034) (kk : lwKK p l e s m below meth c b i cells slots Q G) : W p l e room_1 s m #[Value.ref b] below meth c H locs cells slots Q (F0 m 939 ls []) := by
  obtain ⟨hx, hb, hr, hml, hown, hts, hX, hbl, hlocks, hgv⟩ := C0
  have hg : ∀ q ∈ lwg, q.before #[Value.ref b] s = true := fun q h => hts q (List.mem_filter.mp h).1
  have F : CallFix p m c cL_law 7 s #[Value.ref b] lwg RL := ⟨hx, hb, hml, hown, hg⟩
  obtain ⟨v, w1, w2, e8, e9, J2⟩ := s_bestChance J (xs (i + 1)) (xs (i + 2)) (xs (i + 3)) (bz_01 (xs (i + 4)))
  refine lv_aload_n hx hb dL_law_939 rfl (lv_at hl 1 rfl) ?_
  refine l_read (i := i) (k := 1) hx hb hX hbl hbA S.2.2.2.1 hl (k0 := 0) (k4 := 4) rfl rfl (by decide) (by omega) hL dL_law_940 dL_law_941 dL_law_943 dL_law_944 dL_law_945 ?_
  refine l_read (i := i) (k := 2) hx hb hX hbl hbA S.2.2.2.1 hl (k0 := 0) (k4 := 4) rfl rfl (by decide) (by omega) hL dL_law_946 dL_law_947 dL_law_949 dL_law_950 dL_law_951 ?_
  refine l_read (i := i) (k := 3) hx hb hX hbl hbA S.2.2.2.1 hl (k0 := 0) (k4 := 4) rfl rfl (by decide) (by omega) hL dL_law_952 dL_law_953 dL_law_955 dL_law_956 dL_law_957 ?_
  refine l_read (i := i) (k := 4) hx hb hX hbl hbA S.2.2.2.1 hl (k0 := 0) (k4 := 4) rfl rfl (by decide) (by omega) hL dL_law_958 dL_law_959 dL_law_961 dL_law_962 dL_law_963 ?_
  refine l_bool hx hb dL_law_964 dL_law_967 dL_law_968 dL_law_971 ?_
  refine g_callVl (As := [.int (xs (i + 1)), .int (xs (i + 2)), .int (xs (i + 3)), .int (nI (bz (xs (i + 4))))]) (rest := []) F S (c_X8_bestChance l G ((xs (i + 1))) ((xs (i + 2))) ((xs (i + 3))) ((nI (bz (xs (i + 4))))) _ e8) (cwV 4 hg (goodV t_co_X8_bestChance t_ml_L_84 t_im_X8_bestChance t_se_X8_bestChance t_in_X8) rfl rfl rfl (by decide +kernel) ⟨Nat.le_of_ble_eq_true rfl, Nat.le_of_ble_eq_true rfl⟩) (S.obj (k := 0) (by decide) (by decide) rfl (oc_X8 _ _ _ (by decide))) rfl hl.1 rfl (Nat.le_of_ble_eq_true rfl) ⟨Nat.le_trans (Nat.le_add_right _ _) hc.1, Nat.le_trans (Nat.le_add_right _ _) hc.2⟩ dL_law_972 (fun H locs S => ?_)
  have S : St G w1 s H locs := S
  refine lv_aload_n hx hb dL_law_975 rfl (lv_at hl 2 rfl) ?_
  refine l_read (i := i) (k := 1) hx hb hX hbl hbA S.2.2.2.1 hl (k0 := 0) (k4 := 4) rfl rfl (by decide) (by omega) hL dL_law_976 dL_law_977 dL_law_979 dL_law_980 dL_law_981 ?_
  refine l_read (i := i) (k := 2) hx hb hX hbl hbA S.2.2.2.1 hl (k0 := 0) (k4 := 4) rfl rfl (by decide) (by omega) hL dL_law_982 dL_law_983 dL_law_985 dL_law_986 dL_law_987 ?_
  refine l_read (i := i) (k := 3) hx hb hX hbl hbA S.2.2.2.1 hl (k0 := 0) (k4 := 4) rfl rfl (by decide) (by omega) hL dL_law_988 dL_law_989 dL_law_991 dL_law_992 dL_law_993 ?_
  refine l_read (i := i) (k := 4) hx hb hX hbl hbA S.2.2.2.1 hl (k0 := 0) (k4 := 4) rfl rfl (by decide) (by omega) hL dL_law_994 dL_law_995 dL_law_997 dL_law_998 dL_law_999 ?_
  refine l_bool hx hb dL_law_1000 dL_law_1003 dL_law_1004 dL_law_1007 ?_
  refine g_callVl (As := [.int (xs (i + 1)), .int (xs (i + 2)), .int (xs (i + 3)), .int (nI (bz (xs (i + 4))))]) (rest := [.long v]) F S (c_X9_bestChance l G ((xs (i + 1))) ((xs (i + 2))) ((xs (i + 3))) ((nI (bz (xs (i + 4))))) _ e9) (cwV 4 hg (goodV t_co_X9_bestChance t_ml_L_87 t_im_X9_bestChance t_se_X9_bestChance t_in_X9) rfl rfl rfl (by decide +kernel) ⟨Nat.le_of_ble_eq_true rfl, Nat.le_of_ble_eq_true rfl⟩) (S.obj (k := 130) (by decide) (by decide) rfl (oc_X9 _ _ _ (by decide))) rfl hl.1 rfl (Nat.le_of_ble_eq_true rfl) ⟨Nat.le_trans (Nat.le_add_right _ _) hc.1, Nat.le_trans (Nat.le_add_right _ _) hc.2⟩ dL_law_1008 (fun H locs S => ?_)
  have S : St G w2 s H locs := S
  refine W.lcmp hx hb dL_law_1011 ?_
  refine lv_if_eq (tgt := 1456) hx hb dL_law_1012 (by decide) (fun _ => ?_) (fun q => absurd (cmp_eq9 v) q)
  refine W.widen (k := cells + 6) (n := slots + 6) (Nat.le_add_right _ _) (Nat.le_add_right _ _) ?_
  exact kk w2 H locs ls J2 S hl
set_option maxHeartbeats 4000000 in
theorem arm_15 (C0 : lw_At p s m meth c b L xs) (hbA : ¬ gA G b) (hL : L ≤ 3072) (hi : i + 6 ≤ L) (J : JJ w) (S : St G w s H locs) (hl : lv_has ls 7 (lwL G b i)) (hc : cells + 6 ≤ 601024 ∧ slots + 6 ≤ 7293034) (kk : lwKK p l e s m below meth c b i cells slots Q G) : W p l e room_1 s m #[Value.ref b] below meth c H locs cells slots Q (F0 m 1017 ls []) := by
  obtain ⟨hx, hb, hr, hml, hown, hts, hX, hbl, hlocks, hgv⟩ := C0
  have hg : ∀ q ∈ lwg, q.before #[Value.ref b] s = true := fun q h => hts q (List.mem_filter.mp h).1
  have F : CallFix p m c cL_law 7 s #[Value.ref b] lwg RL := ⟨hx, hb, hml, hown, hg⟩
  obtain ⟨v, w1, w2, e8, e9, J2⟩ := s_likely J 
  refine lv_aload_n hx hb dL_law_1017 rfl (lv_at hl 1 rfl) ?_
  refine g_callVi (As := []) (rest := []) F S (c_X8_likely l G  _ e8) (cwV 0 hg (goodV t_co_X8_likely t_ml_L_88 t_im_X8_likely t_se_X8_likely t_in_X8) rfl rfl rfl (by decide +kernel) ⟨Nat.le_of_ble_eq_true rfl, Nat.le_of_ble_eq_true rfl⟩) (S.obj (k := 0) (by decide) (by decide) rfl (oc_X8 _ _ _ (by decide))) rfl hl.1 rfl (Nat.le_of_ble_eq_true rfl) ⟨Nat.le_trans (Nat.le_add_right _ _) hc.1, Nat.le_trans (Nat.le_add_right _ _) hc.2⟩ dL_law_1018 (fun H locs S => ?_)
  have S : St G w1 s H locs := S
  refine lv_aload_n hx hb dL_law_1021 rfl (lv_at hl 2 rfl) ?_
  refine g_callVi (As := []) (rest := [.int v]) F S (c_X9_likely l G  _ e9) (cwV 0 hg (goodV t_co_X9_likely t_ml_L_91 t_im_X9_likely t_se_X9_likely t_in_X9) rfl rfl rfl (by decide +kernel) ⟨Nat.le_of_ble_eq_true rfl, Nat.le_of_ble_eq_true rfl⟩) (S.obj (k := 130) (by decide) (by decide) rfl (oc_X9 _ _ _ (by decide))) rfl hl.1 rfl (Nat.le_of_ble_eq_true rfl) ⟨Nat.le_trans (Nat.le_add_right _ _) hc.1, Nat.le_trans (Nat.le_add_right _ _) hc.2⟩ dL_law_1022 (fun H locs S => ?_)
  have S : St G w2 s H locs := S
  refine lv_icmp_eq (tgt := 1456) hx hb dL_law_1025 (by decide) (fun _ => ?_) (fun q => absurd rfl q)
  refine W.widen (k := cells + 6) (n := slots + 6) (Nat.le_add_right _ _) (Nat.le_add_right _ _) ?_
  exact kk w2 H locs ls J2 S hl
set_option maxHeartbeats 4000000 in
theorem arm_16 (C0 : lw_At p s m meth c b L xs) (hbA : ¬ gA G b) (hL : L ≤ 3072) (hi : i + 6 ≤ L) (J : JJ w) (S : St G w s H locs) (hl : lv_has ls 7 (lwL G b i)) (hc : cells + 6 ≤ 601024 ∧ slots + 6 ≤ 7293034) (kk : lwKK p l e s m below meth c b i cells slots Q G) : W p l e room_1 s m #[Value.ref b] below meth c H locs cells slots Q (F0 m 1030 ls []) := by
  obtain ⟨hx, hb, hr, hml, hown, hts, hX, hbl, hlocks, hgv⟩ := C0
  have hg : ∀ q ∈ lwg, q.before #[Value.ref b] s = true := fun q h => hts q (List.mem_filter.mp h).1
  have F : CallFix p m c cL_law 7 s #[Value.ref b] lwg RL := ⟨hx, hb, hml, hown, hg⟩
  obtain ⟨v, w1, w2, e8, e9, J2⟩ := s_cannot J (xs (i + 1))
  refine lv_aload_n hx hb dL_law_1030 rfl (lv_at hl 1 rfl) ?_
  refine l_read (i := i) (k := 1) hx hb hX hbl hbA S.2.2.2.1 hl (k0 := 0) (k4 := 4) rfl rfl (by decide) (by omega) hL dL_law_1031 dL_law_1032 dL_law_1034 dL_law_1035 dL_law_1036 ?_
  refine g_callVi (As := [.int (xs (i + 1))]) (rest := []) F S (c_X8_cannot l G ((xs (i + 1))) _ e8) (cwV 1 hg (goodV t_co_X8_cannot t_ml_L_92 t_im_X8_cannot t_se_X8_cannot t_in_X8) rfl rfl rfl (by decide +kernel) ⟨Nat.le_of_ble_eq_true rfl, Nat.le_of_ble_eq_true rfl⟩) (S.obj (k := 0) (by decide) (by decide) rfl (oc_X8 _ _ _ (by decide))) rfl hl.1 rfl (Nat.le_of_ble_eq_true rfl) ⟨Nat.le_trans (Nat.le_add_right _ _) hc.1, Nat.le_trans (Nat.le_add_right _ _) hc.2⟩ dL_law_1037 (fun H locs S => ?_)
  have S : St G w1 s H locs := S
  refine lv_aload_n hx hb dL_law_1040 rfl (lv_at hl 2 rfl) ?_
  refine l_read (i := i) (k := 1) hx hb hX hbl hbA S.2.2.2.1 hl (k0 := 0) (k4 := 4) rfl rfl (by decide) (by omega) hL dL_law_1041 dL_law_1042 dL_law_1044 dL_law_1045 dL_law_1046 ?_
  refine g_callVi (As := [.int (xs (i + 1))]) (rest := [.int v]) F S (c_X9_cannot l G ((xs (i + 1))) _ e9) (cwV 1 hg (goodV t_co_X9_cannot t_ml_L_95 t_im_X9_cannot t_se_X9_cannot t_in_X9) rfl rfl rfl (by decide +kernel) ⟨Nat.le_of_ble_eq_true rfl, Nat.le_of_ble_eq_true rfl⟩) (S.obj (k := 130) (by decide) (by decide) rfl (oc_X9 _ _ _ (by decide))) rfl hl.1 rfl (Nat.le_of_ble_eq_true rfl) ⟨Nat.le_trans (Nat.le_add_right _ _) hc.1, Nat.le_trans (Nat.le_add_right _ _) hc.2⟩ dL_law_1047 (fun H locs S => ?_)
  have S : St G w2 s H locs := S
  refine lv_icmp_eq (tgt := 1456) hx hb dL_law_1050 (by decide) (fun _ => ?_) (fun q => absurd rfl q)
  refine W.widen (k := cells + 6) (n := slots + 6) (Nat.le_add_right _ _) (Nat.le_add_right _ _) ?_
  exact kk w2 H locs ls J2 S hl
set_option maxHeartbeats 4000000 in
theorem arm_17 (C0 : lw_At p s m meth c b L xs) (hbA : ¬ gA G b) (hL : L ≤ 3072) (hi : i + 6 ≤ L) (J : JJ w) (S : St G w s H locs) (hl : lv_has ls 7 (lwL G b i)) (hc : cells + 6 ≤ 601024 ∧ slots + 6 ≤ 7293034) (kk : lwKK p l e s m below meth c b i cells slots Q G) : W p l e room_1 s m #[Value.ref b] below meth c H locs cells slots Q (F0 m 1055 ls []) := by
  obtain ⟨hx, hb, hr, hml, hown, hts, hX, hbl, hlocks, hgv⟩ := C0
  have hg : ∀ q ∈ lwg, q.before #[Value.ref b] s = true := fun q h => hts q (List.mem_filter.mp h).1
  have F : CallFix p m c cL_law 7 s #[Value.ref b] lwg RL := ⟨hx, hb, hml, hown, hg⟩
  obtain ⟨v, w1, w2, e8, e9, J2⟩ := s_day J (xs (i + 1)) (xs (i + 2))
  refine lv_aload_n hx hb dL_law_1055 rfl (lv_at hl 1 rfl) ?_
  refine l_read (i := i) (k := 1) hx hb hX hbl hbA S.2.2.2.1 hl (k0 := 0) (k4 := 4) rfl rfl (by decide) (by omega) hL dL_law_1056 dL_law_1057 dL_law_1059 dL_law_1060 dL_law_1061 ?_
  refine l_read (i := i) (k := 2) hx hb hX hbl hbA S.2.2.2.1 hl (k0 := 0) (k4 := 4) rfl rfl (by decide) (by omega) hL dL_law_1062 dL_law_1063 dL_law_1065 dL_law_1066 dL_law_1067 ?_
  refine g_callVb (As := [.int (xs (i + 1)), .int (xs (i + 2))]) (rest := []) F S (c_X8_day l G ((xs (i + 1))) ((xs (i + 2))) _ e8) (cwV 2 hg (goodV t_co_X8_day t_ml_L_96 t_im_X8_day t_se_X8_day t_in_X8) rfl rfl rfl (by decide +kernel) ⟨Nat.le_of_ble_eq_true rfl, Nat.le_of_ble_eq_true rfl⟩) (S.obj (k := 0) (by decide) (by decide) rfl (oc_X8 _ _ _ (by decide))) rfl hl.1 rfl (Nat.le_of_ble_eq_true rfl) ⟨Nat.le_trans (Nat.le_add_right _ _) hc.1, Nat.le_trans (Nat.le_add_right _ _) hc.2⟩ dL_law_1068 (fun H locs hB1 S => ?_)
  have S : St G w1 s H locs := S
  refine lv_aload_n hx hb dL_law_1071 rfl (lv_at hl 2 rfl) ?_
  refine l_read (i := i) (k := 1) hx hb hX hbl hbA S.2.2.2.1 hl (k0 := 0) (k4 := 4) rfl rfl (by decide) (by omega) hL dL_law_1072 dL_law_1073 dL_law_1075 dL_law_1076 dL_law_1077 ?_
  refine l_read (i := i) (k := 2) hx hb hX hbl hbA S.2.2.2.1 hl (k0 := 0) (k4 := 4) rfl rfl (by decide) (by omega) hL dL_law_1078 dL_law_1079 dL_law_1081 dL_law_1082 dL_law_1083 ?_
  refine g_callVb (As := [.int (xs (i + 1)), .int (xs (i + 2))]) (rest := [.int v]) F S (c_X9_day l G ((xs (i + 1))) ((xs (i + 2))) _ e9) (cwV 2 hg (goodV t_co_X9_day t_ml_L_100 t_im_X9_day t_se_X9_day t_in_X9) rfl rfl rfl (by decide +kernel) ⟨Nat.le_of_ble_eq_true rfl, Nat.le_of_ble_eq_true rfl⟩) (S.obj (k := 130) (by decide) (by decide) rfl (oc_X9 _ _ _ (by decide))) rfl hl.1 rfl (Nat.le_of_ble_eq_true rfl) ⟨Nat.le_trans (Nat.le_add_right _ _) hc.1, Nat.le_trans (Nat.le_add_right _ _) hc.2⟩ dL_law_1084 (fun H locs hB2 S => ?_)
  have S : St G w2 s H locs := S
  refine lv_icmp_eq (tgt := 1456) hx hb dL_law_1087 (by decide) (fun _ => ?_) (fun q => absurd rfl q)
  refine W.widen (k := cells + 6) (n := slots + 6) (Nat.le_add_right _ _) (Nat.le_add_right _ _) ?_
  exact kk w2 H locs ls J2 S hl
set_option maxHeartbeats 4000000 in
theorem arm_18 (C0 : lw_At p s m meth c b L xs) (hbA : ¬ gA G b) (hL : L ≤ 3072) (hi : i + 6 ≤ L) (J : JJ w) (S : St G w s H locs) (hl : lv_has ls 7 (lwL G b i)) (hc : cells + 6 ≤ 601024 ∧ slots + 6 ≤ 7293034) (kk : lwKK p l e s m below meth c b i cells slots Q G) : W p l e room_1 s m #[Value.ref b] below meth c H locs cells slots Q (F0 m 1092 ls []) := by
  obtain ⟨hx, hb, hr, hml, hown, hts, hX, hbl, hlocks, hgv⟩ := C0
  have hg : ∀ q ∈ lwg, q.before #[Value.ref b] s = true := fun q h => hts q (List.mem_filter.mp h).1
  have F : CallFix p m c cL_law 7 s #[Value.ref b] lwg RL := ⟨hx, hb, hml, hown, hg⟩
  obtain ⟨v, w1, w2, e8, e9, J2⟩ := s_put J (xs (i + 1))
  refine lv_aload_n hx hb dL_law_1092 rfl (lv_at hl 1 rfl) ?_
  refine l_read (i := i) (k := 1) hx hb hX hbl hbA S.2.2.2.1 hl (k0 := 0) (k4 := 4) rfl rfl (by decide) (by omega) hL dL_law_1093 dL_law_1094 dL_law_1096 dL_law_1097 dL_law_1098 ?_
  refine g_callVi (As := [.int (xs (i + 1))]) (rest := []) F S (c_X8_put l G ((xs (i + 1))) _ e8) (cwV 1 hg (goodV t_co_X8_put t_ml_L_101 t_im_X8_put t_se_X8_put t_in_X8) rfl rfl rfl (by decide +kernel) ⟨Nat.le_of_ble_eq_true rfl, Nat.le_of_ble_eq_true rfl⟩) (S.obj (k := 0) (by decide) (by decide) rfl (oc_X8 _ _ _ (by decide))) rfl hl.1 rfl (Nat.le_of_ble_eq_true rfl) ⟨Nat.le_trans (Nat.le_add_right _ _) hc.1, Nat.le_trans (Nat.le_add_right _ _) hc.2⟩ dL_law_1099 (fun H locs S => ?_)
  have S : St G w1 s H locs := S
  refine lv_aload_n hx hb dL_law_1102 rfl (lv_at hl 2 rfl) ?_
  refine l_read (i := i) (k := 1) hx hb hX hbl hbA S.2.2.2.1 hl (k0 := 0) (k4 := 4) rfl rfl (by decide) (by omega) hL dL_law_1103 dL_law_1104 dL_law_1106 dL_law_1107 dL_law_1108 ?_
  refine g_callVi (As := [.int (xs (i + 1))]) (rest := [.int v]) F S (c_X9_put l G ((xs (i + 1))) _ e9) (cwV 1 hg (goodV t_co_X9_put t_ml_L_104 t_im_X9_put t_se_X9_put t_in_X9) rfl rfl rfl (by decide +kernel) ⟨Nat.le_of_ble_eq_true rfl, Nat.le_of_ble_eq_true rfl⟩) (S.obj (k := 130) (by decide) (by decide) rfl (oc_X9 _ _ _ (by decide))) rfl hl.1 rfl (Nat.le_of_ble_eq_true rfl) ⟨Nat.le_trans (Nat.le_add_right _ _) hc.1, Nat.le_trans (Nat.le_add_right _ _) hc.2⟩ dL_law_1109 (fun H locs S => ?_)
  have S : St G w2 s H locs := S
  refine lv_icmp_eq (tgt := 1456) hx hb dL_law_1112 (by decide) (fun _ => ?_) (fun q => absurd rfl q)
  refine W.widen (k := cells + 6) (n := slots + 6) (Nat.le_add_right _ _) (Nat.le_add_right _ _) ?_
  exact kk w2 H locs ls J2 S hl
set_option maxHeartbeats 4000000 in
theorem arm_19 (C0 : lw_At p s m meth c b L xs) (hbA : ¬ gA G b) (hL : L ≤ 3072) (hi : i + 6 ≤ L) (J : JJ w) (S : St G w s H locs) (hl : lv_has ls 7 (lwL G b i)) (hc : cells + 6 ≤ 601024 ∧ slots + 6 ≤ 7293034) (kk : lwKK p l e s m below meth c b i cells slots Q G) : W p l e room_1 s m #[Value.ref b] below meth c H locs cells slots Q (F0 m 1117 ls []) := by
  obtain ⟨hx, hb, hr, hml, hown, hts, hX, hbl, hlocks, hgv⟩ := C0
  have hg : ∀ q ∈ lwg, q.before #[Value.ref b] s = true := fun q h => hts q (List.mem_filter.mp h).1
  have F : CallFix p m c cL_law 7 s #[Value.ref b] lwg RL := ⟨hx, hb, hml, hown, hg⟩
  obtain ⟨v, w1, w2, e8, e9, J2⟩ := s_goes J (xs (i + 1)) (bz_01 (xs (i + 2)))
  refine lv_aload_n hx hb dL_law_1117 rfl (lv_at hl 1 rfl) ?_
  refine l_read (i := i) (k := 1) hx hb hX hbl hbA S.2.2.2.1 hl (k0 := 0) (k4 := 4) rfl rfl (by decide) (by omega) hL dL_law_1118 dL_law_1119 dL_law_1121 dL_law_1122 dL_law_1123 ?_
  refine l_read (i := i) (k := 2) hx hb hX hbl hbA S.2.2.2.1 hl (k0 := 0) (k4 := 4) rfl rfl (by decide) (by omega) hL dL_law_1124 dL_law_1125 dL_law_1127 dL_law_1128 dL_law_1129 ?_
  refine l_bool hx hb dL_law_1130 dL_law_1133 dL_law_1134 dL_law_1137 ?_
  refine g_callVl (As := [.int (xs (i + 1)), .int (nI (bz (xs (i + 2))))]) (rest := []) F S (c_X8_goes l G ((xs (i + 1))) ((nI (bz (xs (i + 2))))) _ e8) (cwV 2 hg (goodV t_co_X8_goes t_ml_L_105 t_im_X8_goes t_se_X8_goes t_in_X8) rfl rfl rfl (by decide +kernel) ⟨Nat.le_of_ble_eq_true rfl, Nat.le_of_ble_eq_true rfl⟩) (S.obj (k := 0) (by decide) (by decide) rfl (oc_X8 _ _ _ (by decide))) rfl hl.1 rfl (Nat.le_of_ble_eq_true rfl) ⟨Nat.le_trans (Nat.le_add_right _ _) hc.1, Nat.le_trans (Nat.le_add_right _ _) hc.2⟩ dL_law_1138 (fun H locs S => ?_)
  have S : St G w1 s H locs := S
  refine lv_aload_n hx hb dL_law_1141 rfl (lv_at hl 2 rfl) ?_
  refine l_read (i := i) (k := 1) hx hb hX hbl hbA S.2.2.2.1 hl (k0 := 0) (k4 := 4) rfl rfl (by decide) (by omega) hL dL_law_1142 dL_law_1143 dL_law_1145 dL_law_1146 dL_law_1147 ?_
  refine l_read (i := i) (k := 2) hx hb hX hbl hbA S.2.2.2.1 hl (k0 := 0) (k4 := 4) rfl rfl (by decide) (by omega) hL dL_law_1148 dL_law_1149 dL_law_1151 dL_law_1152 dL_law_1153 ?_
  refine l_bool hx hb dL_law_1154 dL_law_1157 dL_law_1158 dL_law_1161 ?_
  refine g_callVl (As := [.int (xs (i + 1)), .int (nI (bz (xs (i + 2))))]) (rest := [.long v]) F S (c_X9_goes l G ((xs (i + 1))) ((nI (bz (xs (i + 2))))) _ e9) (cwV 2 hg (goodV t_co_X9_goes t_ml_L_109 t_im_X9_goes t_se_X9_goes t_in_X9) rfl rfl rfl (by decide +kernel) ⟨Nat.le_of_ble_eq_true rfl, Nat.le_of_ble_eq_true rfl⟩) (S.obj (k := 130) (by decide) (by decide) rfl (oc_X9 _ _ _ (by decide))) rfl hl.1 rfl (Nat.le_of_ble_eq_true rfl) ⟨Nat.le_trans (Nat.le_add_right _ _) hc.1, Nat.le_trans (Nat.le_add_right _ _) hc.2⟩ dL_law_1162 (fun H locs S => ?_)
  have S : St G w2 s H locs := S
  refine W.lcmp hx hb dL_law_1165 ?_
  refine lv_if_eq (tgt := 1456) hx hb dL_law_1166 (by decide) (fun _ => ?_) (fun q => absurd (cmp_eq9 v) q)
  refine W.widen (k := cells + 6) (n := slots + 6) (Nat.le_add_right _ _) (Nat.le_add_right _ _) ?_
  exact kk w2 H locs ls J2 S hl
set_option maxHeartbeats 4000000 in
theorem arm_20 (C0 : lw_At p s m meth c b L xs) (hbA : ¬ gA G b) (hL : L ≤ 3072) (hi : i + 6 ≤ L) (J : JJ w) (S : St G w s H locs) (hl : lv_has ls 7 (lwL G b i)) (hc : cells + 6 ≤ 601024 ∧ slots + 6 ≤ 7293034) (kk : lwKK p l e s m below meth c b i cells slots Q G) : W p l e room_1 s m #[Value.ref b] below meth c H locs cells slots Q (F0 m 1171 ls []) := by
  obtain ⟨hx, hb, hr, hml, hown, hts, hX, hbl, hlocks, hgv⟩ := C0
  have hg : ∀ q ∈ lwg, q.before #[Value.ref b] s = true := fun q h => hts q (List.mem_filter.mp h).1
  have F : CallFix p m c cL_law 7 s #[Value.ref b] lwg RL := ⟨hx, hb, hml, hown, hg⟩
  obtain ⟨v, w1, w2, e8, e9, J2⟩ := s_place J (xs (i + 1))
  refine lv_aload_n hx hb dL_law_1171 rfl (lv_at hl 1 rfl) ?_
  refine l_read (i := i) (k := 1) hx hb hX hbl hbA S.2.2.2.1 hl (k0 := 0) (k4 := 4) rfl rfl (by decide) (by omega) hL dL_law_1172 dL_law_1173 dL_law_1175 dL_law_1176 dL_law_1177 ?_
  refine g_callVi (As := [.int (xs (i + 1))]) (rest := []) F S (c_X8_place l G ((xs (i + 1))) _ e8) (cwV 1 hg (goodV t_co_X8_place t_ml_L_110 t_im_X8_place t_se_X8_place t_in_X8) rfl rfl rfl (by decide +kernel) ⟨Nat.le_of_ble_eq_true rfl, Nat.le_of_ble_eq_true rfl⟩) (S.obj (k := 0) (by decide) (by decide) rfl (oc_X8 _ _ _ (by decide))) rfl hl.1 rfl (Nat.le_of_ble_eq_true rfl) ⟨Nat.le_trans (Nat.le_add_right _ _) hc.1, Nat.le_trans (Nat.le_add_right _ _) hc.2⟩ dL_law_1178 (fun H locs S => ?_)
  have S : St G w1 s H locs := S
  refine lv_aload_n hx hb dL_law_1181 rfl (lv_at hl 2 rfl) ?_
  refine l_read (i := i) (k := 1) hx hb hX hbl hbA S.2.2.2.1 hl (k0 := 0) (k4 := 4) rfl rfl (by decide) (by omega) hL dL_law_1182 dL_law_1183 dL_law_1185 dL_law_1186 dL_law_1187 ?_
  refine g_callVi (As := [.int (xs (i + 1))]) (rest := [.int v]) F S (c_X9_place l G ((xs (i + 1))) _ e9) (cwV 1 hg (goodV t_co_X9_place t_ml_L_113 t_im_X9_place t_se_X9_place t_in_X9) rfl rfl rfl (by decide +kernel) ⟨Nat.le_of_ble_eq_true rfl, Nat.le_of_ble_eq_true rfl⟩) (S.obj (k := 130) (by decide) (by decide) rfl (oc_X9 _ _ _ (by decide))) rfl hl.1 rfl (Nat.le_of_ble_eq_true rfl) ⟨Nat.le_trans (Nat.le_add_right _ _) hc.1, Nat.le_trans (Nat.le_add_right _ _) hc.2⟩ dL_law_1188 (fun H locs S => ?_)
  have S : St G w2 s H locs := S
  refine lv_icmp_eq (tgt := 1456) hx hb dL_law_1191 (by decide) (fun _ => ?_) (fun q => absurd rfl q)
  refine W.widen (k := cells + 6) (n := slots + 6) (Nat.le_add_right _ _) (Nat.le_add_right _ _) ?_
  exact kk w2 H locs ls J2 S hl
set_option maxHeartbeats 4000000 in
theorem arm_21 (C0 : lw_At p s m meth c b L xs) (hbA : ¬ gA G b) (hL : L ≤ 3072) (hi : i + 6 ≤ L) (J : JJ w) (S : St G w s H locs) (hl : lv_has ls 7 (lwL G b i)) (hc : cells + 6 ≤ 601024 ∧ slots + 6 ≤ 7293034) (kk : lwKK p l e s m below meth c b i cells slots Q G) : W p l e room_1 s m #[Value.ref b] below meth c H locs cells slots Q (F0 m 1196 ls []) := by
  obtain ⟨hx, hb, hr, hml, hown, hts, hX, hbl, hlocks, hgv⟩ := C0
  have hg : ∀ q ∈ lwg, q.before #[Value.ref b] s = true := fun q h => hts q (List.mem_filter.mp h).1
  have F : CallFix p m c cL_law 7 s #[Value.ref b] lwg RL := ⟨hx, hb, hml, hown, hg⟩
  obtain ⟨v, w1, w2, e8, e9, J2⟩ := s_box J (xs (i + 1))
  refine lv_aload_n hx hb dL_law_1196 rfl (lv_at hl 1 rfl) ?_
  refine l_read (i := i) (k := 1) hx hb hX hbl hbA S.2.2.2.1 hl (k0 := 0) (k4 := 4) rfl rfl (by decide) (by omega) hL dL_law_1197 dL_law_1198 dL_law_1200 dL_law_1201 dL_law_1202 ?_
  refine g_callVi (As := [.int (xs (i + 1))]) (rest := []) F S (c_X8_box l G ((xs (i + 1))) _ e8) (cwV 1 hg (goodV t_co_X8_box t_ml_L_114 t_im_X8_box t_se_X8_box t_in_X8) rfl rfl rfl (by decide +kernel) ⟨Nat.le_of_ble_eq_true rfl, Nat.le_of_ble_eq_true rfl⟩) (S.obj (k := 0) (by decide) (by decide) rfl (oc_X8 _ _ _ (by decide))) rfl hl.1 rfl (Nat.le_of_ble_eq_true rfl) ⟨Nat.le_trans (Nat.le_add_right _ _) hc.1, Nat.le_trans (Nat.le_add_right _ _) hc.2⟩ dL_law_1203 (fun H locs S => ?_)
  have S : St G w1 s H locs := S
  refine lv_aload_n hx hb dL_law_1206 rfl (lv_at hl 2 rfl) ?_
  refine l_read (i := i) (k := 1) hx hb hX hbl hbA S.2.2.2.1 hl (k0 := 0) (k4 := 4) rfl rfl (by decide) (by omega) hL dL_law_1207 dL_law_1208 dL_law_1210 dL_law_1211 dL_law_1212 ?_
  refine g_callVi (As := [.int (xs (i + 1))]) (rest := [.int v]) F S (c_X9_box l G ((xs (i + 1))) _ e9) (cwV 1 hg (goodV t_co_X9_box t_ml_L_117 t_im_X9_box t_se_X9_box t_in_X9) rfl rfl rfl (by decide +kernel) ⟨Nat.le_of_ble_eq_true rfl, Nat.le_of_ble_eq_true rfl⟩) (S.obj (k := 130) (by decide) (by decide) rfl (oc_X9 _ _ _ (by decide))) rfl hl.1 rfl (Nat.le_of_ble_eq_true rfl) ⟨Nat.le_trans (Nat.le_add_right _ _) hc.1, Nat.le_trans (Nat.le_add_right _ _) hc.2⟩ dL_law_1213 (fun H locs S => ?_)
  have S : St G w2 s H locs := S
  refine lv_icmp_eq (tgt := 1456) hx hb dL_law_1216 (by decide) (fun _ => ?_) (fun q => absurd rfl q)
  refine W.widen (k := cells + 6) (n := slots + 6) (Nat.le_add_right _ _) (Nat.le_add_right _ _) ?_
  exact kk w2 H locs ls J2 S hl
set_option maxHeartbeats 4000000 in
theorem arm_22 (C0 : lw_At p s m meth c b L xs) (hbA : ¬ gA G b) (hL : L ≤ 3072) (hi : i + 6 ≤ L) (J : JJ w) (S : St G w s H locs) (hl : lv_has ls 7 (lwL G b i)) (hc : cells + 6 ≤ 601024 ∧ slots + 6 ≤ 7293034) (kk : lwKK p l e s m below meth c b i cells slots Q G) : W p l e room_1 s m #[Value.ref b] below meth c H locs cells slots Q (F0 m 1221 ls []) := by
  obtain ⟨hx, hb, hr, hml, hown, hts, hX, hbl, hlocks, hgv⟩ := C0
  have hg : ∀ q ∈ lwg, q.before #[Value.ref b] s = true := fun q h => hts q (List.mem_filter.mp h).1
  have F : CallFix p m c cL_law 7 s #[Value.ref b] lwg RL := ⟨hx, hb, hml, hown, hg⟩
  obtain ⟨v, w1, w2, e8, e9, J2⟩ := s_recall J 
  refine lv_aload_n hx hb dL_law_1221 rfl (lv_at hl 1 rfl) ?_
  refine g_callVi (As := []) (rest := []) F S (c_X8_recall l G  _ e8) (cwV 0 hg (goodV t_co_X8_recall t_ml_L_118 t_im_X8_recall t_se_X8_recall t_in_X8) rfl rfl rfl (by decide +kernel) ⟨Nat.le_of_ble_eq_true rfl, Nat.le_of_ble_eq_true rfl⟩) (S.obj (k := 0) (by decide) (by decide) rfl (oc_X8 _ _ _ (by decide))) rfl hl.1 rfl (Nat.le_of_ble_eq_true rfl) ⟨Nat.le_trans (Nat.le_add_right _ _) hc.1, Nat.le_trans (Nat.le_add_right _ _) hc.2⟩ dL_law_1222 (fun H locs S => ?_)
  have S : St G w1 s H locs := S
  refine lv_aload_n hx hb dL_law_1225 rfl (lv_at hl 2 rfl) ?_
  refine g_callVi (As := []) (rest := [.int v]) F S (c_X9_recall l G  _ e9) (cwV 0 hg (goodV t_co_X9_recall t_ml_L_121 t_im_X9_recall t_se_X9_recall t_in_X9) rfl rfl rfl (by decide +kernel) ⟨Nat.le_of_ble_eq_true rfl, Nat.le_of_ble_eq_true rfl⟩) (S.obj (k := 130) (by decide) (by decide) rfl (oc_X9 _ _ _ (by decide))) rfl hl.1 rfl (Nat.le_of_ble_eq_true rfl) ⟨Nat.le_trans (Nat.le_add_right _ _) hc.1, Nat.le_trans (Nat.le_add_right _ _) hc.2⟩ dL_law_1226 (fun H locs S => ?_)
  have S : St G w2 s H locs := S
  refine lv_icmp_eq (tgt := 1456) hx hb dL_law_1229 (by decide) (fun _ => ?_) (fun q => absurd rfl q)
  refine W.widen (k := cells + 6) (n := slots + 6) (Nat.le_add_right _ _) (Nat.le_add_right _ _) ?_
  exact kk w2 H locs ls J2 S hl
set_option maxHeartbeats 4000000 in
theorem arm_23 (C0 : lw_At p s m meth c b L xs) (hbA : ¬ gA G b) (hL : L ≤ 3072) (hi : i + 6 ≤ L) (J : JJ w) (S : St G w s H locs) (hl : lv_has ls 7 (lwL G b i)) (hc : cells + 6 ≤ 601024 ∧ slots + 6 ≤ 7293034) (kk : lwKK p l e s m below meth c b i cells slots Q G) : W p l e room_1 s m #[Value.ref b] below meth c H locs cells slots Q (F0 m 1234 ls []) := by
  obtain ⟨hx, hb, hr, hml, hown, hts, hX, hbl, hlocks, hgv⟩ := C0
  have hg : ∀ q ∈ lwg, q.before #[Value.ref b] s = true := fun q h => hts q (List.mem_filter.mp h).1
  have F : CallFix p m c cL_law 7 s #[Value.ref b] lwg RL := ⟨hx, hb, hml, hown, hg⟩
  obtain ⟨v, w1, w2, e8, e9, J2⟩ := s_mark J 
  refine lv_aload_n hx hb dL_law_1234 rfl (lv_at hl 1 rfl) ?_
  refine g_callVi (As := []) (rest := []) F S (c_X8_mark l G  _ e8) (cwV 0 hg (goodV t_co_X8_mark t_ml_L_122 t_im_X8_mark t_se_X8_mark t_in_X8) rfl rfl rfl (by decide +kernel) ⟨Nat.le_of_ble_eq_true rfl, Nat.le_of_ble_eq_true rfl⟩) (S.obj (k := 0) (by decide) (by decide) rfl (oc_X8 _ _ _ (by decide))) rfl hl.1 rfl (Nat.le_of_ble_eq_true rfl) ⟨Nat.le_trans (Nat.le_add_right _ _) hc.1, Nat.le_trans (Nat.le_add_right _ _) hc.2⟩ dL_law_1235 (fun H locs S => ?_)
  have S : St G w1 s H locs := S
  refine lv_aload_n hx hb dL_law_1238 rfl (lv_at hl 2 rfl) ?_
  refine g_callVi (As := []) (rest := [.int v]) F S (c_X9_mark l G  _ e9) (cwV 0 hg (goodV t_co_X9_mark t_ml_L_125 t_im_X9_mark t_se_X9_mark t_in_X9) rfl rfl rfl (by decide +kernel) ⟨Nat.le_of_ble_eq_true rfl, Nat.le_of_ble_eq_true rfl⟩) (S.obj (k := 130) (by decide) (by decide) rfl (oc_X9 _ _ _ (by decide))) rfl hl.1 rfl (Nat.le_of_ble_eq_true rfl) ⟨Nat.le_trans (Nat.le_add_right _ _) hc.1, Nat.le_trans (Nat.le_add_right _ _) hc.2⟩ dL_law_1239 (fun H locs S => ?_)
  have S : St G w2 s H locs := S
  refine lv_icmp_eq (tgt := 1456) hx hb dL_law_1242 (by decide) (fun _ => ?_) (fun q => absurd rfl q)
  refine W.widen (k := cells + 6) (n := slots + 6) (Nat.le_add_right _ _) (Nat.le_add_right _ _) ?_
  exact kk w2 H locs ls J2 S hl
set_option maxHeartbeats 4000000 in
theorem arm_24 (C0 : lw_At p s m meth c b L xs) (hbA : ¬ gA G b) (hL : L ≤ 3072) (hi : i + 6 ≤ L) (J : JJ w) (S : St G w s H locs) (hl : lv_has ls 7 (lwL G b i)) (hc : cells + 6 ≤ 601024 ∧ slots + 6 ≤ 7293034) (kk : lwKK p l e s m below meth c b i cells slots Q G) : W p l e room_1 s m #[Value.ref b] below meth c H locs cells slots Q (F0 m 1247 ls []) := by
  obtain ⟨hx, hb, hr, hml, hown, hts, hX, hbl, hlocks, hgv⟩ := C0
  have hg : ∀ q ∈ lwg, q.before #[Value.ref b] s = true := fun q h => hts q (List.mem_filter.mp h).1
  have F : CallFix p m c cL_law 7 s #[Value.ref b] lwg RL := ⟨hx, hb, hml, hown, hg⟩
  obtain ⟨v, w1, w2, e8, e9, J2⟩ := s_back J (xs (i + 1))
  refine lv_aload_n hx hb dL_law_1247 rfl (lv_at hl 1 rfl) ?_
  refine l_read (i := i) (k := 1) hx hb hX hbl hbA S.2.2.2.1 hl (k0 := 0) (k4 := 4) rfl rfl (by decide) (by omega) hL dL_law_1248 dL_law_1249 dL_law_1251 dL_law_1252 dL_law_1253 ?_
  refine g_callVb (As := [.int (xs (i + 1))]) (rest := []) F S (c_X8_back l G ((xs (i + 1))) _ e8) (cwV 1 hg (goodV t_co_X8_back t_ml_L_126 t_im_X8_back t_se_X8_back t_in_X8) rfl rfl rfl (by decide +kernel) ⟨Nat.le_of_ble_eq_true rfl, Nat.le_of_ble_eq_true rfl⟩) (S.obj (k := 0) (by decide) (by decide) rfl (oc_X8 _ _ _ (by decide))) rfl hl.1 rfl (Nat.le_of_ble_eq_true rfl) ⟨Nat.le_trans (Nat.le_add_right _ _) hc.1, Nat.le_trans (Nat.le_add_right _ _) hc.2⟩ dL_law_1254 (fun H locs hB1 S => ?_)
  have S : St G w1 s H locs := S
  refine lv_aload_n hx hb dL_law_1257 rfl (lv_at hl 2 rfl) ?_
  refine l_read (i := i) (k := 1) hx hb hX hbl hbA S.2.2.2.1 hl (k0 := 0) (k4 := 4) rfl rfl (by decide) (by omega) hL dL_law_1258 dL_law_1259 dL_law_1261 dL_law_1262 dL_law_1263 ?_
  refine g_callVb (As := [.int (xs (i + 1))]) (rest := [.int v]) F S (c_X9_back l G ((xs (i + 1))) _ e9) (cwV 1 hg (goodV t_co_X9_back t_ml_L_130 t_im_X9_back t_se_X9_back t_in_X9) rfl rfl rfl (by decide +kernel) ⟨Nat.le_of_ble_eq_true rfl, Nat.le_of_ble_eq_true rfl⟩) (S.obj (k := 130) (by decide) (by decide) rfl (oc_X9 _ _ _ (by decide))) rfl hl.1 rfl (Nat.le_of_ble_eq_true rfl) ⟨Nat.le_trans (Nat.le_add_right _ _) hc.1, Nat.le_trans (Nat.le_add_right _ _) hc.2⟩ dL_law_1264 (fun H locs hB2 S => ?_)
  have S : St G w2 s H locs := S
  refine lv_icmp_eq (tgt := 1456) hx hb dL_law_1267 (by decide) (fun _ => ?_) (fun q => absurd rfl q)
  refine W.widen (k := cells + 6) (n := slots + 6) (Nat.le_add_right _ _) (Nat.le_add_right _ _) ?_
  exact kk w2 H locs ls J2 S hl
set_option maxHeartbeats 4000000 in
theorem arm_25 (C0 : lw_At p s m meth c b L xs) (hbA : ¬ gA G b) (hL : L ≤ 3072) (hi : i + 6 ≤ L) (J : JJ w) (S : St G w s H locs) (hl : lv_has ls 7 (lwL G b i)) (hc : cells + 6 ≤ 601024 ∧ slots + 6 ≤ 7293034) (kk : lwKK p l e s m below meth c b i cells slots Q G) : W p l e room_1 s m #[Value.ref b] below meth c H locs cells slots Q (F0 m 1272 ls []) := by
  obtain ⟨hx, hb, hr, hml, hown, hts, hX, hbl, hlocks, hgv⟩ := C0
  have hg : ∀ q ∈ lwg, q.before #[Value.ref b] s = true := fun q h => hts q (List.mem_filter.mp h).1
  have F : CallFix p m c cL_law 7 s #[Value.ref b] lwg RL := ⟨hx, hb, hml, hown, hg⟩
  obtain ⟨v, w1, w2, e8, e9, J2⟩ := s_porter J (xs (i + 1)) (xs (i + 2))
  refine lv_aload_n hx hb dL_law_1272 rfl (lv_at hl 1 rfl) ?_
  refine l_read (i := i) (k := 1) hx hb hX hbl hbA S.2.2.2.1 hl (k0 := 0) (k4 := 4) rfl rfl (by decide) (by omega) hL dL_law_1273 dL_law_1274 dL_law_1276 dL_law_1277 dL_law_1278 ?_
  refine l_read (i := i) (k := 2) hx hb hX hbl hbA S.2.2.2.1 hl (k0 := 0) (k4 := 4) rfl rfl (by decide) (by omega) hL dL_law_1279 dL_law_1280 dL_law_1282 dL_law_1283 dL_law_1284 ?_
  refine g_callVi (As := [.int (xs (i + 1)), .int (xs (i + 2))]) (rest := []) F S (c_X8_porter l G ((xs (i + 1))) ((xs (i + 2))) _ e8) (cwV 2 hg (goodV t_co_X8_porter t_ml_L_131 t_im_X8_porter t_se_X8_porter t_in_X8) rfl rfl rfl (by decide +kernel) ⟨Nat.le_of_ble_eq_true rfl, Nat.le_of_ble_eq_true rfl⟩) (S.obj (k := 0) (by decide) (by decide) rfl (oc_X8 _ _ _ (by decide))) rfl hl.1 rfl (Nat.le_of_ble_eq_true rfl) ⟨Nat.le_trans (Nat.le_add_right _ _) hc.1, Nat.le_trans (Nat.le_add_right _ _) hc.2⟩ dL_law_1285 (fun H locs S => ?_)
  have S : St G w1 s H locs := S
  refine lv_aload_n hx hb dL_law_1288 rfl (lv_at hl 2 rfl) ?_
  refine l_read (i := i) (k := 1) hx hb hX hbl hbA S.2.2.2.1 hl (k0 := 0) (k4 := 4) rfl rfl (by decide) (by omega) hL dL_law_1289 dL_law_1290 dL_law_1292 dL_law_1293 dL_law_1294 ?_
  refine l_read (i := i) (k := 2) hx hb hX hbl hbA S.2.2.2.1 hl (k0 := 0) (k4 := 4) rfl rfl (by decide) (by omega) hL dL_law_1295 dL_law_1296 dL_law_1298 dL_law_1299 dL_law_1300 ?_
  refine g_callVi (As := [.int (xs (i + 1)), .int (xs (i + 2))]) (rest := [.int v]) F S (c_X9_porter l G ((xs (i + 1))) ((xs (i + 2))) _ e9) (cwV 2 hg (goodV t_co_X9_porter t_ml_L_134 t_im_X9_porter t_se_X9_porter t_in_X9) rfl rfl rfl (by decide +kernel) ⟨Nat.le_of_ble_eq_true rfl, Nat.le_of_ble_eq_true rfl⟩) (S.obj (k := 130) (by decide) (by decide) rfl (oc_X9 _ _ _ (by decide))) rfl hl.1 rfl (Nat.le_of_ble_eq_true rfl) ⟨Nat.le_trans (Nat.le_add_right _ _) hc.1, Nat.le_trans (Nat.le_add_right _ _) hc.2⟩ dL_law_1301 (fun H locs S => ?_)
  have S : St G w2 s H locs := S
  refine lv_icmp_eq (tgt := 1456) hx hb dL_law_1304 (by decide) (fun _ => ?_) (fun q => absurd rfl q)
  refine W.widen (k := cells + 6) (n := slots + 6) (Nat.le_add_right _ _) (Nat.le_add_right _ _) ?_
  exact kk w2 H locs ls J2 S hl
set_option maxHeartbeats 4000000 in
theorem arm_26 (C0 : lw_At p s m meth c b L xs) (hbA : ¬ gA G b) (hL : L ≤ 3072) (hi : i + 6 ≤ L) (J : JJ w) (S : St G w s H locs) (hl : lv_has ls 7 (lwL G b i)) (hc : cells + 6 ≤ 601024 ∧ slots + 6 ≤ 7293034) (kk : lwKK p l e s m below meth c b i cells slots Q G) : W p l e room_1 s m #[Value.ref b] below meth c H locs cells slots Q (F0 m 1309 ls []) := by
  obtain ⟨hx, hb, hr, hml, hown, hts, hX, hbl, hlocks, hgv⟩ := C0
  have hg : ∀ q ∈ lwg, q.before #[Value.ref b] s = true := fun q h => hts q (List.mem_filter.mp h).1
  have F : CallFix p m c cL_law 7 s #[Value.ref b] lwg RL := ⟨hx, hb, hml, hown, hg⟩
  obtain ⟨v, w1, w2, e8, e9, J2⟩ := s_boxOf J (xs (i + 1)) (bz_01 (xs (i + 2)))
  refine lv_aload_n hx hb dL_law_1309 rfl (lv_at hl 1 rfl) ?_
  refine l_read (i := i) (k := 1) hx hb hX hbl hbA S.2.2.2.1 hl (k0 := 0) (k4 := 4) rfl rfl (by decide) (by omega) hL dL_law_1310 dL_law_1311 dL_law_1313 dL_law_1314 dL_law_1315 ?_
  refine l_read (i := i) (k := 2) hx hb hX hbl hbA S.2.2.2.1 hl (k0 := 0) (k4 := 4) rfl rfl (by decide) (by omega) hL dL_law_1316 dL_law_1317 dL_law_1319 dL_law_1320 dL_law_1321 ?_
  refine l_bool hx hb dL_law_1322 dL_law_1325 dL_law_1326 dL_law_1329 ?_
  refine g_callVi (As := [.int (xs (i + 1)), .int (nI (bz (xs (i + 2))))]) (rest := []) F S (c_X8_boxOf l G ((xs (i + 1))) ((nI (bz (xs (i + 2))))) _ e8) (cwV 2 hg (goodV t_co_X8_boxOf t_ml_L_135 t_im_X8_boxOf t_se_X8_boxOf t_in_X8) rfl rfl rfl (by decide +kernel) ⟨Nat.le_of_ble_eq_true rfl, Nat.le_of_ble_eq_true rfl⟩) (S.obj (k := 0) (by decide) (by decide) rfl (oc_X8 _ _ _ (by decide))) rfl hl.1 rfl (Nat.le_of_ble_eq_true rfl) ⟨Nat.le_trans (Nat.le_add_right _ _) hc.1, Nat.le_trans (Nat.le_add_right _ _) hc.2⟩ dL_law_1330 (fun H locs S => ?_)
  have S : St G w1 s H locs := S
  refine lv_aload_n hx hb dL_law_1333 rfl (lv_at hl 2 rfl) ?_
  refine l_read (i := i) (k := 1) hx hb hX hbl hbA S.2.2.2.1 hl (k0 := 0) (k4 := 4) rfl rfl (by decide) (by omega) hL dL_law_1334 dL_law_1335 dL_law_1337 dL_law_1338 dL_law_1339 ?_
  refine l_read (i := i) (k := 2) hx hb hX hbl hbA S.2.2.2.1 hl (k0 := 0) (k4 := 4) rfl rfl (by decide) (by omega) hL dL_law_1340 dL_law_1341 dL_law_1343 dL_law_1344 dL_law_1345 ?_
  refine l_bool hx hb dL_law_1346 dL_law_1349 dL_law_1350 dL_law_1353 ?_
  refine g_callVi (As := [.int (xs (i + 1)), .int (nI (bz (xs (i + 2))))]) (rest := [.int v]) F S (c_X9_boxOf l G ((xs (i + 1))) ((nI (bz (xs (i + 2))))) _ e9) (cwV 2 hg (goodV t_co_X9_boxOf t_ml_L_139 t_im_X9_boxOf t_se_X9_boxOf t_in_X9) rfl rfl rfl (by decide +kernel) ⟨Nat.le_of_ble_eq_true rfl, Nat.le_of_ble_eq_true rfl⟩) (S.obj (k := 130) (by decide) (by decide) rfl (oc_X9 _ _ _ (by decide))) rfl hl.1 rfl (Nat.le_of_ble_eq_true rfl) ⟨Nat.le_trans (Nat.le_add_right _ _) hc.1, Nat.le_trans (Nat.le_add_right _ _) hc.2⟩ dL_law_1354 (fun H locs S => ?_)
  have S : St G w2 s H locs := S
  refine lv_icmp_eq (tgt := 1456) hx hb dL_law_1357 (by decide) (fun _ => ?_) (fun q => absurd rfl q)
  refine W.widen (k := cells + 6) (n := slots + 6) (Nat.le_add_right _ _) (Nat.le_add_right _ _) ?_
  exact kk w2 H locs ls J2 S hl
set_option maxHeartbeats 4000000 in
theorem arm_28 (C0 : lw_At p s m meth c b L xs) (hbA : ¬ gA G b) (hL : L ≤ 3072) (hi : i + 6 ≤ L) (J : JJ w) (S : St G w s H locs) (hl : lv_has ls 7 (lwL G b i)) (hc : cells + 6 ≤ 601024 ∧ slots + 6 ≤ 7293034) (kk : lwKK p l e s m below meth c b i cells slots Q G) : W p l e room_1 s m #[Value.ref b] below meth c H locs cells slots Q (F0 m 1418 ls []) := by
  obtain ⟨hx, hb, hr, hml, hown, hts, hX, hbl, hlocks, hgv⟩ := C0
  have hg : ∀ q ∈ lwg, q.before #[Value.ref b] s = true := fun q h => hts q (List.mem_filter.mp h).1
  have F : CallFix p m c cL_law 7 s #[Value.ref b] lwg RL := ⟨hx, hb, hml, hown, hg⟩
  obtain ⟨v, w1, w2, e8, e9, J2⟩ := s_size J (xs (i + 1))
  refine lv_aload_n hx hb dL_law_1418 rfl (lv_at hl 1 rfl) ?_
  refine l_read (i := i) (k := 1) hx hb hX hbl hbA S.2.2.2.1 hl (k0 := 0) (k4 := 4) rfl rfl (by decide) (by omega) hL dL_law_1419 dL_law_1420 dL_law_1422 dL_law_1423 dL_law_1424 ?_
  refine g_callVi (As := [.int (xs (i + 1))]) (rest := []) F S (c_X8_size l G ((xs (i + 1))) _ e8) (cwV 1 hg (goodV t_co_X8_size t_ml_L_149 t_im_X8_size t_se_X8_size t_in_X8) rfl rfl rfl (by decide +kernel) ⟨Nat.le_of_ble_eq_true rfl, Nat.le_of_ble_eq_true rfl⟩) (S.obj (k := 0) (by decide) (by decide) rfl (oc_X8 _ _ _ (by decide))) rfl hl.1 rfl (Nat.le_of_ble_eq_true rfl) ⟨Nat.le_trans (Nat.le_add_right _ _) hc.1, Nat.le_trans (Nat.le_add_right _ _) hc.2⟩ dL_law_1425 (fun H locs S => ?_)
  have S : St G w1 s H locs := S
  refine lv_aload_n hx hb dL_law_1428 rfl (lv_at hl 2 rfl) ?_
  refine l_read (i := i) (k := 1) hx hb hX hbl hbA S.2.2.2.1 hl (k0 := 0) (k4 := 4) rfl rfl (by decide) (by omega) hL dL_law_1429 dL_law_1430 dL_law_1432 dL_law_1433 dL_law_1434 ?_
  refine g_callVi (As := [.int (xs (i + 1))]) (rest := [.int v]) F S (c_X9_size l G ((xs (i + 1))) _ e9) (cwV 1 hg (goodV t_co_X9_size t_ml_L_152 t_im_X9_size t_se_X9_size t_in_X9) rfl rfl rfl (by decide +kernel) ⟨Nat.le_of_ble_eq_true rfl, Nat.le_of_ble_eq_true rfl⟩) (S.obj (k := 130) (by decide) (by decide) rfl (oc_X9 _ _ _ (by decide))) rfl hl.1 rfl (Nat.le_of_ble_eq_true rfl) ⟨Nat.le_trans (Nat.le_add_right _ _) hc.1, Nat.le_trans (Nat.le_add_right _ _) hc.2⟩ dL_law_1435 (fun H locs S => ?_)
  have S : St G w2 s H locs := S
  refine lv_icmp_eq (tgt := 1456) hx hb dL_law_1438 (by decide) (fun _ => ?_) (fun q => absurd rfl q)
  refine W.widen (k := cells + 6) (n := slots + 6) (Nat.le_add_right _ _) (Nat.le_add_right _ _) ?_
  exact kk w2 H locs ls J2 S hl
set_option maxHeartbeats 4000000 in
theorem arm_29 (C0 : lw_At p s m meth c b L xs) (hbA : ¬ gA G b) (hL : L ≤ 3072) (hi : i + 6 ≤ L) (J : JJ w) (S : St G w s H locs) (hl : lv_has ls 7 (lwL G b i)) (hc : cells + 6 ≤ 601024 ∧ slots + 6 ≤ 7293034) (kk : lwKK p l e s m below meth c b i cells slots Q G) : W p l e room_1 s m #[Value.ref b] below meth c H locs cells slots Q (F0 m 1443 ls []) := by
  obtain ⟨hx, hb, hr, hml, hown, hts, hX, hbl, hlocks, hgv⟩ := C0
  have hg : ∀ q ∈ lwg, q.before #[Value.ref b] s = true := fun q h => hts q (List.mem_filter.mp h).1
  have F : CallFix p m c cL_law 7 s #[Value.ref b] lwg RL := ⟨hx, hb, hml, hown, hg⟩
  obtain ⟨v, w1, w2, e8, e9, J2⟩ := s_trouble J 
  refine lv_aload_n hx hb dL_law_1443 rfl (lv_at hl 1 rfl) ?_
  refine g_callVi (As := []) (rest := []) F S (c_X8_trouble l G  _ e8) (cwV 0 hg (goodV t_co_X8_trouble t_ml_L_153 t_im_X8_trouble t_se_X8_trouble t_in_X8) rfl rfl rfl (by decide +kernel) ⟨Nat.le_of_ble_eq_true rfl, Nat.le_of_ble_eq_true rfl⟩) (S.obj (k := 0) (by decide) (by decide) rfl (oc_X8 _ _ _ (by decide))) rfl hl.1 rfl (Nat.le_of_ble_eq_true rfl) ⟨Nat.le_trans (Nat.le_add_right _ _) hc.1, Nat.le_trans (Nat.le_add_right _ _) hc.2⟩ dL_law_1444 (fun H locs S => ?_)
  have S : St G w1 s H locs := S
  refine lv_aload_n hx hb dL_law_1447 rfl (lv_at hl 2 rfl) ?_
  refine g_callVi (As := []) (rest := [.int v]) F S (c_X9_trouble l G  _ e9) (cwV 0 hg (goodV t_co_X9_trouble t_ml_L_156 t_im_X9_trouble t_se_X9_trouble t_in_X9) rfl rfl rfl (by decide +kernel) ⟨Nat.le_of_ble_eq_true rfl, Nat.le_of_ble_eq_true rfl⟩) (S.obj (k := 130) (by decide) (by decide) rfl (oc_X9 _ _ _ (by decide))) rfl hl.1 rfl (Nat.le_of_ble_eq_true rfl) ⟨Nat.le_trans (Nat.le_add_right _ _) hc.1, Nat.le_trans (Nat.le_add_right _ _) hc.2⟩ dL_law_1448 (fun H locs S => ?_)
  have S : St G w2 s H locs := S
  refine lv_icmp_eq (tgt := 1456) hx hb dL_law_1451 (by decide) (fun _ => ?_) (fun q => absurd rfl q)
  refine W.widen (k := cells + 6) (n := slots + 6) (Nat.le_add_right _ _) (Nat.le_add_right _ _) ?_
  exact kk w2 H locs ls J2 S hl
set_option maxHeartbeats 4000000 in
theorem arm_27 (hl0 : l.stackTraces = false) (hLW : LW (gA G) s s.heap) (C0 : lw_At p s m meth c b L xs) (hbA : ¬ gA G b) (hL : L ≤ 3072) (hi : i + 6 ≤ L) (J : JJ w) (S : St G w s H locs) (hl : lv_has ls 7 (lwL G b i)) (hc : cells + 6 ≤ 601024 ∧ slots + 6 ≤ 7293034) (kk : lwKK p l e s m below meth c b i cells slots Q G) : W p l e room_1 s m #[Value.ref b] below meth c H locs cells slots Q (F0 m 1362 ls []) := by
  obtain ⟨hx, hb, hr, hml, hown, hts, hX, hbl, hlocks, hgv⟩ := C0
  have hg : ∀ q ∈ lwg, q.before #[Value.ref b] s = true := fun q h => hts q (List.mem_filter.mp h).1
  have F : CallFix p m c cL_law 7 s #[Value.ref b] lwg RL := ⟨hx, hb, hml, hown, hg⟩
  obtain ⟨o, e8, -⟩ := s_led J (xs (i + 1))
  obtain ⟨w1, hw1, J1, e81⟩ : ∃ w1, w1 = (LO o w).2 ∧ JJ w1 ∧ f_X8_led (xs (i + 1)) w1 = some (o, w1) := by
    cases o with
    | none => exact ⟨w, rfl, J, e8⟩
    | some v => exact ⟨_, rfl, J.out _ _, led_out2 e8⟩
  obtain ⟨o2, e82, v, w2, e9, J2, hm⟩ := s_led J1 (xs (i + 1))
  have ho : o2 = o := congrArg Prod.fst (Option.some.inj (e82.symm.trans e81))
  subst ho
  have hfr : gL w2 149 0 = gL w1 149 0 := ((fr_X9_led _ _ e9).1 149 0 (by decide +kernel)).2
  refine lv_aload_n hx hb dL_law_1362 rfl (lv_at hl 1 rfl) ?_
  refine l_read (i := i) (k := 1) hx hb hX hbl hbA S.2.2.2.1 hl (k0 := 0) (k4 := 4) rfl rfl (by decide) (by omega) hL dL_law_1363 dL_law_1364 dL_law_1366 dL_law_1367 dL_law_1368 ?_
  refine lv_aload_n hx hb dL_law_1369 rfl (lv_at hl 3 rfl) ?_
  refine va_calli (vx_runSW (As := [.ref (gad G 0), .int (xs (i + 1)), .ref (gad G 149)]) (rest := []) F (c_L_led l hl0 G (xs (i + 1)) w e8) (vx_cwSW 3 hg (goodSW (fun w9 h9 => (List.mem_cons.mp h9).elim (fun q => by rw [q]; exact t_cw_led) id) t_ml_L_140 t_st_L_led t_in_L) rfl rfl rfl (by decide +kernel) ⟨Nat.le_of_ble_eq_true rfl, Nat.le_of_ble_eq_true rfl⟩) ⟨PL.blind, fun U hU hW9 => ⟨rfl, S.preL hLW hU hW9⟩⟩ rfl rfl hl.1 rfl (lv_room (Nat.le_of_ble_eq_true rfl)) dL_law_1370 ⟨Nat.le_trans (Nat.add_le_add_left (by decide) _) hc.1, hc.2⟩) S.2.2.2.1 (fun q _ h => h) (fun q h => h) (fun r u t H1 locs1 ht hvm hp hB hz1 hk1 hS => ?_)
  have S := S.back ht hB hS
  have hr5 : r = (LO o2 w).1 := congrArg Prod.fst hp
  have hu : u = w1 := (congrArg Prod.snd hp).trans hw1.symm
  subst hu
  refine lv_istore (lv' := [(5, .int r), (0, .ref b), (1, .ref (gad G 0)), (2, .ref (gad G 130)), (3, .ref (gad G 149)), (4, .int (nI i))]) hx hb dL_law_1373 hl (by decide) rfl (fun ls hl => ?_)
  refine lv_aload_n hx hb dL_law_1375 rfl (lv_at hl 3 rfl) ?_
  refine l_read (i := i) (k := 1) hx hb hX hbl hbA S.2.2.2.1 hl (k0 := 1) (k4 := 5) rfl rfl (by decide) (by omega) hL dL_law_1376 dL_law_1377 dL_law_1379 dL_law_1380 dL_law_1381 ?_
  refine g_callVi (As := [.int (xs (i + 1))]) (rest := []) F S (c_X9_led l G (xs (i + 1)) _ e9) (cwV 1 hg (goodV t_co_X9_led t_ml_L_145 t_im_X9_led t_se_X9_led t_in_X9) rfl rfl rfl (by decide +kernel) ⟨Nat.le_of_ble_eq_true rfl, Nat.le_of_ble_eq_true rfl⟩) (S.obj (k := 130) (by decide) (by decide) rfl (oc_X9 _ _ _ (by decide))) rfl hl.1 rfl (Nat.le_of_ble_eq_true rfl) ⟨Nat.le_trans (Nat.add_le_add_left (by decide) _) hc.1, hc.2⟩ dL_law_1382 (fun H locs S => ?_)
  have S : St G w2 s H locs := S
  refine lv_istore (lv' := [(6, .int v), (5, .int r), (0, .ref b), (1, .ref (gad G 0)), (2, .ref (gad G 130)), (3, .ref (gad G 149)), (4, .int (nI i))]) hx hb dL_law_1385 hl (by decide) rfl (fun ls hl => ?_)
  refine lv_aload_n hx hb dL_law_1387 rfl (lv_at hl 4 rfl) ?_
  refine g_callVi (z := (gI w2 130 0, w2)) (As := []) (rest := []) F S (c_X9_thrown l G _ rfl) (cwV 0 hg (goodV t_co_X9_thrown t_ml_L_146 t_im_X9_thrown t_se_X9_thrown t_in_X9) rfl rfl rfl (by decide +kernel) ⟨Nat.le_of_ble_eq_true rfl, Nat.le_of_ble_eq_true rfl⟩) (S.obj (k := 130) (by decide) (by decide) rfl (oc_X9 _ _ _ (by decide))) rfl hl.1 rfl (Nat.le_of_ble_eq_true rfl) ⟨Nat.le_trans (Nat.add_le_add_left (by decide) _) hc.1, hc.2⟩ dL_law_1388 (fun H locs S => ?_)
  have S : St G w2 s H locs := S
  refine lv_iload hx hb dL_law_1391 (lv_at hl 1 rfl) ?_
  have hlk := lv_sub (l' := lwL G b i) hl [2, 3, 4, 5, 6] rfl
  have fin : W p l e room_1 s m #[Value.ref b] below meth c H locs (cells + 1) (slots + 6) Q (F0 m 1415 ls []) := by
    refine lv_goto (tgt := 1456) hx hb dL_law_1415 (by decide) ?_
    refine W.widen (k := cells + 6) (n := slots + 6) (Nat.add_le_add_left (by decide) _) (Nat.le_refl _) ?_
    exact kk w2 H locs ls J2 S hlk
  cases o2 with
  | none =>
    have hm : gI w2 130 0 = 1 := hm
    have hr5 : r = 1 := hr5
    refine lv_icmp_eq (tgt := 1398) hx hb dL_law_1393 (by decide) (fun _ => ?_) (fun q => absurd (by rw [hm, hr5]) q)
    refine lv_iload hx hb dL_law_1398 (lv_at hl 1 rfl) ?_
    exact lv_if_ne (tgt := 1415) hx hb dL_law_1400 (by decide) (fun _ => fin) (fun q => absurd (hr5.symm.trans q) (by decide))
  | some v8 =>
    obtain ⟨hm1, hm2⟩ : gI w2 130 0 = 0 ∧ v = v8 := hm
    have hr5 : r = 0 := hr5
    refine lv_icmp_eq (tgt := 1398) hx hb dL_law_1393 (by decide) (fun _ => ?_) (fun q => absurd (by rw [hm1, hr5]) q)
    refine lv_iload hx hb dL_law_1398 (lv_at hl 1 rfl) ?_
    refine lv_if_ne (tgt := 1415) hx hb dL_law_1400 (by decide) (fun q => absurd hr5 q) (fun _ => ?_)
    refine lv_aload_n hx hb dL_law_1403 rfl (lv_at hl 5 rfl) ?_
    refine lv_iconst (v := 0) hx hb dL_law_1404 (by decide) ?_
    refine g_lald (n := 1) (k := 149) hx hb S (isA_29 (by decide)) (by decide) dL_law_1405 ?_
    refine lv_iload hx hb dL_law_1406 (lv_at hl 0 rfl) ?_
    refine lv_i2l hx hb dL_law_1408 rfl ?_
    have ev : gL w2 149 (ix 0) = v.toInt64 := by
      rw [hm2]
      refine hfr.trans ?_
      rw [hw1]
      show (if (149 : Nat) = 149 ∧ 0 = ix 0 then v8.toInt64 else w.2.1 149 0) = v8.toInt64
      exact if_pos ⟨rfl, by decide⟩
    rw [ev]
    refine W.lcmp hx hb dL_law_1409 ?_
    exact lv_if_eq (tgt := 1415) hx hb dL_law_1410 (by decide) (fun _ => fin) (fun q => absurd (cmp_eq9 _) q)
end LAWA
