def LX (s : State) (A : Nat → Prop) (b L : Nat) (xs : Nat → Int32) : Prop := va_X b L xs s s.heap ∧ b < s.heap.size ∧ ¬ A b
def LKo (p : Program) (l : Launch) (e : Env) (s : State) (m : MethodId) (b : Nat) (below : List Frame) (meth : Method) (c : Code) (D : va_G) (cI cS cO : ClassId) (a am : Nat → Nat) (A : Nat → Prop) (Q : State → Prop) (ls : Array Slot) (cells slots : Nat) : Prop := ∀ (C : CS) (M : MS) (S : Sh) (ad : Nat → Nat) (H : Heap) (locs : List Loc), RelC C S → RelM M S → HX D (wC cI cO a ad C ++ wM cI cS am M) A s.heap H locs → W p l e room_1 s m #[Value.ref b] below meth c H locs (cells + 3) (slots + 809) Q (F0 m 1472 ls [])
def zb (x : Int32) : Int32 := if x = 0 then 0 else 1
section LAWC
variable {p : Program} {l : Launch} {e : Env} {s : State} {m : MethodId} {b : Nat} {below : List Frame} {meth : Method} {c : Code} {D : va_G} {cI cS cO : ClassId} {a am ad : Nat → Nat} {A : Nat → Prop} {rt : Option FieldType} {Q : State → Prop} {C : CS} {M : MS} {S : Sh} {H : Heap} {locs : List Loc} {ls : Array Slot} {cells slots L j : Nat} {xs : Nat → Int32}
set_option maxHeartbeats 4000000 in
set_option maxRecDepth 100000 in
theorem lw_c0 (E : Cx p s m #[Value.ref b] meth c cL_law 4 RL rt D (tyW cI cS cO)) (X : LX s A b L xs) (hj : ∀ t : Nat, t < 6 → vp_in (nI (6 * j) + nI t) L) (hcs : cells + 3 ≤ 600000 ∧ slots + 809 ≤ 7302250) (hC : RelC C S) (hM : RelM M S) (hH : HX D (wC cI cO a ad C ++ wM cI cS am M) A s.heap H locs) (hl : lv_has ls 4 [(0, .ref b), (1, .ref (a 0)), (2, .ref (am 0)), (3, .int (nI (6 * j)))]) (K : LKo p l e s m b below meth c D cI cS cO a am A Q ls cells slots) : W p l e room_1 s m #[Value.ref b] below meth c H locs cells slots Q (F0 m 168 ls []) := by
  have hx := E.1
  have hb := E.2.1
  obtain ⟨hX, hbl, hbA⟩ := X
  refine lv_aload_n hx hb dL_law_168 rfl (lv_at hl 1 rfl) ?_
  refine lv_aload_n hx hb dL_law_169 rfl (lv_at hl 0 rfl) ?_
  refine lv_iload_n hx hb dL_law_170 rfl (lv_at hl 3 rfl) ?_
  refine lv_iconst (v := (1 : Int32)) hx hb dL_law_171 (by decide) ?_
  refine lv_iadd hx hb dL_law_172 ?_
  refine va_sld hx hb hX hbl hbA hH.2.2.1 (hj 1 (by decide)) dL_law_173 ?_
  refine lv_aload_n hx hb dL_law_174 rfl (lv_at hl 0 rfl) ?_
  refine lv_iload_n hx hb dL_law_175 rfl (lv_at hl 3 rfl) ?_
  refine lv_iconst (v := (2 : Int32)) hx hb dL_law_176 (by decide) ?_
  refine lv_iadd hx hb dL_law_177 ?_
  refine va_sld hx hb hX hbl hbA hH.2.2.1 (hj 2 (by decide)) dL_law_178 ?_
  refine lv_aload_n hx hb dL_law_179 rfl (lv_at hl 0 rfl) ?_
  refine lv_iload_n hx hb dL_law_180 rfl (lv_at hl 3 rfl) ?_
  refine lv_iconst (v := (3 : Int32)) hx hb dL_law_181 (by decide) ?_
  refine lv_iadd hx hb dL_law_182 ?_
  refine va_sld hx hb hX hbl hbA hH.2.2.1 (hj 3 (by decide)) dL_law_183 ?_
  refine lv_aload_n hx hb dL_law_184 rfl (lv_at hl 0 rfl) ?_
  refine lv_iload_n hx hb dL_law_185 rfl (lv_at hl 3 rfl) ?_
  refine lv_iconst (v := (4 : Int32)) hx hb dL_law_186 (by decide) ?_
  refine lv_iadd hx hb dL_law_187 ?_
  refine va_sld hx hb hX hbl hbA hH.2.2.1 (hj 4 (by decide)) dL_law_188 ?_
  refine x_fi (x_runV (As := [.int (xs (Int32.toNatClampNeg (nI (6 * j) + (1 : Int32)))), .int (xs (Int32.toNatClampNeg (nI (6 * j) + (2 : Int32)))), .int (xs (Int32.toNatClampNeg (nI (6 * j) + (3 : Int32)))), .int (xs (Int32.toNatClampNeg (nI (6 * j) + (4 : Int32))))]) (rest := []) E (c_X3_push (post := fun r u => r = (sp_push S (xs (Int32.toNatClampNeg (nI (6 * j) + (1 : Int32)))) (xs (Int32.toNatClampNeg (nI (6 * j) + (2 : Int32)))) (xs (Int32.toNatClampNeg (nI (6 * j) + (3 : Int32)))) (xs (Int32.toNatClampNeg (nI (6 * j) + (4 : Int32))))).1 ∧ RelC u (sp_push S (xs (Int32.toNatClampNeg (nI (6 * j) + (1 : Int32)))) (xs (Int32.toNatClampNeg (nI (6 * j) + (2 : Int32)))) (xs (Int32.toNatClampNeg (nI (6 * j) + (3 : Int32)))) (xs (Int32.toNatClampNeg (nI (6 * j) + (4 : Int32))))).2) (pc_push hC (fun _ h9 => ⟨rfl, h9⟩))) yk_X3_push yi_X3_push km_L_13 ⟨Nat.le_of_ble_eq_true rfl, Nat.le_of_ble_eq_true rfl⟩ ⟨by show _ ≤ 600000; omega, by show _ ≤ 7302250; omega⟩ (x_part hH) (va_recv E.2.2.2.2.2.1 (x_part hH).1 (ci := 3) (q0 := 0) rfl wC_g0) hl.1 rfl rfl (lv_room (Nat.le_of_ble_eq_true rfl)) dL_law_189) hH (fun r u H locs h9 hH => ?_)
  obtain ⟨er, hC1⟩ := h9
  subst er
  have hH := x_swap hH
  refine lv_aload_n hx hb dL_law_192 rfl (lv_at hl 2 rfl) ?_
  refine lv_aload_n hx hb dL_law_193 rfl (lv_at hl 0 rfl) ?_
  refine lv_iload_n hx hb dL_law_194 rfl (lv_at hl 3 rfl) ?_
  refine lv_iconst (v := (1 : Int32)) hx hb dL_law_195 (by decide) ?_
  refine lv_iadd hx hb dL_law_196 ?_
  refine va_sld hx hb hX hbl hbA hH.2.2.1 (hj 1 (by decide)) dL_law_197 ?_
  refine lv_aload_n hx hb dL_law_198 rfl (lv_at hl 0 rfl) ?_
  refine lv_iload_n hx hb dL_law_199 rfl (lv_at hl 3 rfl) ?_
  refine lv_iconst (v := (2 : Int32)) hx hb dL_law_200 (by decide) ?_
  refine lv_iadd hx hb dL_law_201 ?_
  refine va_sld hx hb hX hbl hbA hH.2.2.1 (hj 2 (by decide)) dL_law_202 ?_
  refine lv_aload_n hx hb dL_law_203 rfl (lv_at hl 0 rfl) ?_
  refine lv_iload_n hx hb dL_law_204 rfl (lv_at hl 3 rfl) ?_
  refine lv_iconst (v := (3 : Int32)) hx hb dL_law_205 (by decide) ?_
  refine lv_iadd hx hb dL_law_206 ?_
  refine va_sld hx hb hX hbl hbA hH.2.2.1 (hj 3 (by decide)) dL_law_207 ?_
  refine lv_aload_n hx hb dL_law_208 rfl (lv_at hl 0 rfl) ?_
  refine lv_iload_n hx hb dL_law_209 rfl (lv_at hl 3 rfl) ?_
  refine lv_iconst (v := (4 : Int32)) hx hb dL_law_210 (by decide) ?_
  refine lv_iadd hx hb dL_law_211 ?_
  refine va_sld hx hb hX hbl hbA hH.2.2.1 (hj 4 (by decide)) dL_law_212 ?_
  refine x_fi (x_runV (As := [.int (xs (Int32.toNatClampNeg (nI (6 * j) + (1 : Int32)))), .int (xs (Int32.toNatClampNeg (nI (6 * j) + (2 : Int32)))), .int (xs (Int32.toNatClampNeg (nI (6 * j) + (3 : Int32)))), .int (xs (Int32.toNatClampNeg (nI (6 * j) + (4 : Int32))))]) (rest := [.int (sp_push S (xs (Int32.toNatClampNeg (nI (6 * j) + (1 : Int32)))) (xs (Int32.toNatClampNeg (nI (6 * j) + (2 : Int32)))) (xs (Int32.toNatClampNeg (nI (6 * j) + (3 : Int32)))) (xs (Int32.toNatClampNeg (nI (6 * j) + (4 : Int32))))).1]) E (c_X4_push (post := fun r u => r = (sp_push S (xs (Int32.toNatClampNeg (nI (6 * j) + (1 : Int32)))) (xs (Int32.toNatClampNeg (nI (6 * j) + (2 : Int32)))) (xs (Int32.toNatClampNeg (nI (6 * j) + (3 : Int32)))) (xs (Int32.toNatClampNeg (nI (6 * j) + (4 : Int32))))).1 ∧ RelM u (sp_push S (xs (Int32.toNatClampNeg (nI (6 * j) + (1 : Int32)))) (xs (Int32.toNatClampNeg (nI (6 * j) + (2 : Int32)))) (xs (Int32.toNatClampNeg (nI (6 * j) + (3 : Int32)))) (xs (Int32.toNatClampNeg (nI (6 * j) + (4 : Int32))))).2) (pm_push hM (fun _ h9 => ⟨rfl, h9⟩))) yk_X4_push yi_X4_push km_L_17 ⟨Nat.le_of_ble_eq_true rfl, Nat.le_of_ble_eq_true rfl⟩ ⟨by show _ ≤ 600000; omega, by show _ ≤ 7302250; omega⟩ (x_part hH) (va_recv E.2.2.2.2.2.1 (x_part hH).1 (ci := 4) (q0 := 0) rfl wM_g0) hl.1 rfl rfl (lv_room (Nat.le_of_ble_eq_true rfl)) dL_law_213) hH (fun r u H locs h9 hH => ?_)
  obtain ⟨er, hM1⟩ := h9
  subst er
  have hH := x_swap hH
  refine lv_icmp_eq (tgt := 1472) hx hb dL_law_216 (by decide) (fun _ => ?_) (fun h9 => absurd rfl h9)
  refine W.widen (k := cells + 3) (n := slots + 809) (by omega) (by omega) ?_
  exact K _ _ _ _ _ _ hC1 hM1 hH
set_option maxHeartbeats 4000000 in
set_option maxRecDepth 100000 in
theorem lw_c1 (E : Cx p s m #[Value.ref b] meth c cL_law 4 RL rt D (tyW cI cS cO)) (X : LX s A b L xs) (hj : ∀ t : Nat, t < 6 → vp_in (nI (6 * j) + nI t) L) (hcs : cells + 3 ≤ 600000 ∧ slots + 809 ≤ 7302250) (hC : RelC C S) (hM : RelM M S) (hH : HX D (wC cI cO a ad C ++ wM cI cS am M) A s.heap H locs) (hl : lv_has ls 4 [(0, .ref b), (1, .ref (a 0)), (2, .ref (am 0)), (3, .int (nI (6 * j)))]) (K : LKo p l e s m b below meth c D cI cS cO a am A Q ls cells slots) : W p l e room_1 s m #[Value.ref b] below meth c H locs cells slots Q (F0 m 221 ls []) := by
  have hx := E.1
  have hb := E.2.1
  obtain ⟨hX, hbl, hbA⟩ := X
  refine lv_aload_n hx hb dL_law_221 rfl (lv_at hl 1 rfl) ?_
  refine lv_aload_n hx hb dL_law_222 rfl (lv_at hl 0 rfl) ?_
  refine lv_iload_n hx hb dL_law_223 rfl (lv_at hl 3 rfl) ?_
  refine lv_iconst (v := (1 : Int32)) hx hb dL_law_224 (by decide) ?_
  refine lv_iadd hx hb dL_law_225 ?_
  refine va_sld hx hb hX hbl hbA hH.2.2.1 (hj 1 (by decide)) dL_law_226 ?_
  refine lv_aload_n hx hb dL_law_227 rfl (lv_at hl 0 rfl) ?_
  refine lv_iload_n hx hb dL_law_228 rfl (lv_at hl 3 rfl) ?_
  refine lv_iconst (v := (2 : Int32)) hx hb dL_law_229 (by decide) ?_
  refine lv_iadd hx hb dL_law_230 ?_
  refine va_sld hx hb hX hbl hbA hH.2.2.1 (hj 2 (by decide)) dL_law_231 ?_
  refine lv_aload_n hx hb dL_law_232 rfl (lv_at hl 0 rfl) ?_
  refine lv_iload_n hx hb dL_law_233 rfl (lv_at hl 3 rfl) ?_
  refine lv_iconst (v := (3 : Int32)) hx hb dL_law_234 (by decide) ?_
  refine lv_iadd hx hb dL_law_235 ?_
  refine va_sld hx hb hX hbl hbA hH.2.2.1 (hj 3 (by decide)) dL_law_236 ?_
  refine x_fi (x_runV (As := [.int (xs (Int32.toNatClampNeg (nI (6 * j) + (1 : Int32)))), .int (xs (Int32.toNatClampNeg (nI (6 * j) + (2 : Int32)))), .int (xs (Int32.toNatClampNeg (nI (6 * j) + (3 : Int32))))]) (rest := []) E (c_X3_cut (post := fun r u => r = (sp_cut S (xs (Int32.toNatClampNeg (nI (6 * j) + (1 : Int32)))) (xs (Int32.toNatClampNeg (nI (6 * j) + (2 : Int32)))) (xs (Int32.toNatClampNeg (nI (6 * j) + (3 : Int32))))).1 ∧ RelC u (sp_cut S (xs (Int32.toNatClampNeg (nI (6 * j) + (1 : Int32)))) (xs (Int32.toNatClampNeg (nI (6 * j) + (2 : Int32)))) (xs (Int32.toNatClampNeg (nI (6 * j) + (3 : Int32))))).2) (pc_cut hC (fun _ h9 => ⟨rfl, h9⟩))) yk_X3_cut yi_X3_cut km_L_18 ⟨Nat.le_of_ble_eq_true rfl, Nat.le_of_ble_eq_true rfl⟩ ⟨by show _ ≤ 600000; omega, by show _ ≤ 7302250; omega⟩ (x_part hH) (va_recv E.2.2.2.2.2.1 (x_part hH).1 (ci := 3) (q0 := 0) rfl wC_g0) hl.1 rfl rfl (lv_room (Nat.le_of_ble_eq_true rfl)) dL_law_237) hH (fun r u H locs h9 hH => ?_)
  obtain ⟨er, hC1⟩ := h9
  subst er
  have hH := x_swap hH
  refine lv_aload_n hx hb dL_law_240 rfl (lv_at hl 2 rfl) ?_
  refine lv_aload_n hx hb dL_law_241 rfl (lv_at hl 0 rfl) ?_
  refine lv_iload_n hx hb dL_law_242 rfl (lv_at hl 3 rfl) ?_
  refine lv_iconst (v := (1 : Int32)) hx hb dL_law_243 (by decide) ?_
  refine lv_iadd hx hb dL_law_244 ?_
  refine va_sld hx hb hX hbl hbA hH.2.2.1 (hj 1 (by decide)) dL_law_245 ?_
  refine lv_aload_n hx hb dL_law_246 rfl (lv_at hl 0 rfl) ?_
  refine lv_iload_n hx hb dL_law_247 rfl (lv_at hl 3 rfl) ?_
  refine lv_iconst (v := (2 : Int32)) hx hb dL_law_248 (by decide) ?_
  refine lv_iadd hx hb dL_law_249 ?_
  refine va_sld hx hb hX hbl hbA hH.2.2.1 (hj 2 (by decide)) dL_law_250 ?_
  refine lv_aload_n hx hb dL_law_251 rfl (lv_at hl 0 rfl) ?_
  refine lv_iload_n hx hb dL_law_252 rfl (lv_at hl 3 rfl) ?_
  refine lv_iconst (v := (3 : Int32)) hx hb dL_law_253 (by decide) ?_
  refine lv_iadd hx hb dL_law_254 ?_
  refine va_sld hx hb hX hbl hbA hH.2.2.1 (hj 3 (by decide)) dL_law_255 ?_
  refine x_fi (x_runV (As := [.int (xs (Int32.toNatClampNeg (nI (6 * j) + (1 : Int32)))), .int (xs (Int32.toNatClampNeg (nI (6 * j) + (2 : Int32)))), .int (xs (Int32.toNatClampNeg (nI (6 * j) + (3 : Int32))))]) (rest := [.int (sp_cut S (xs (Int32.toNatClampNeg (nI (6 * j) + (1 : Int32)))) (xs (Int32.toNatClampNeg (nI (6 * j) + (2 : Int32)))) (xs (Int32.toNatClampNeg (nI (6 * j) + (3 : Int32))))).1]) E (c_X4_cut (post := fun r u => r = (sp_cut S (xs (Int32.toNatClampNeg (nI (6 * j) + (1 : Int32)))) (xs (Int32.toNatClampNeg (nI (6 * j) + (2 : Int32)))) (xs (Int32.toNatClampNeg (nI (6 * j) + (3 : Int32))))).1 ∧ RelM u (sp_cut S (xs (Int32.toNatClampNeg (nI (6 * j) + (1 : Int32)))) (xs (Int32.toNatClampNeg (nI (6 * j) + (2 : Int32)))) (xs (Int32.toNatClampNeg (nI (6 * j) + (3 : Int32))))).2) (pm_cut hM (fun _ h9 => ⟨rfl, h9⟩))) yk_X4_cut yi_X4_cut km_L_22 ⟨Nat.le_of_ble_eq_true rfl, Nat.le_of_ble_eq_true rfl⟩ ⟨by show _ ≤ 600000; omega, by show _ ≤ 7302250; omega⟩ (x_part hH) (va_recv E.2.2.2.2.2.1 (x_part hH).1 (ci := 4) (q0 := 0) rfl wM_g0) hl.1 rfl rfl (lv_room (Nat.le_of_ble_eq_true rfl)) dL_law_256) hH (fun r u H locs h9 hH => ?_)
  obtain ⟨er, hM1⟩ := h9
  subst er
  have hH := x_swap hH
  refine lv_icmp_eq (tgt := 1472) hx hb dL_law_259 (by decide) (fun _ => ?_) (fun h9 => absurd rfl h9)
  refine W.widen (k := cells + 3) (n := slots + 809) (by omega) (by omega) ?_
  exact K _ _ _ _ _ _ hC1 hM1 hH
set_option maxHeartbeats 4000000 in
set_option maxRecDepth 100000 in
theorem lw_c2 (E : Cx p s m #[Value.ref b] meth c cL_law 4 RL rt D (tyW cI cS cO)) (X : LX s A b L xs) (hj : ∀ t : Nat, t < 6 → vp_in (nI (6 * j) + nI t) L) (hcs : cells + 3 ≤ 600000 ∧ slots + 809 ≤ 7302250) (hC : RelC C S) (hM : RelM M S) (hH : HX D (wC cI cO a ad C ++ wM cI cS am M) A s.heap H locs) (hl : lv_has ls 4 [(0, .ref b), (1, .ref (a 0)), (2, .ref (am 0)), (3, .int (nI (6 * j)))]) (K : LKo p l e s m b below meth c D cI cS cO a am A Q ls cells slots) : W p l e room_1 s m #[Value.ref b] below meth c H locs cells slots Q (F0 m 264 ls []) := by
  have hx := E.1
  have hb := E.2.1
  obtain ⟨hX, hbl, hbA⟩ := X
  refine lv_aload_n hx hb dL_law_264 rfl (lv_at hl 1 rfl) ?_
  refine lv_aload_n hx hb dL_law_265 rfl (lv_at hl 0 rfl) ?_
  refine lv_iload_n hx hb dL_law_266 rfl (lv_at hl 3 rfl) ?_
  refine lv_iconst (v := (1 : Int32)) hx hb dL_law_267 (by decide) ?_
  refine lv_iadd hx hb dL_law_268 ?_
  refine va_sld hx hb hX hbl hbA hH.2.2.1 (hj 1 (by decide)) dL_law_269 ?_
  refine lv_aload_n hx hb dL_law_270 rfl (lv_at hl 0 rfl) ?_
  refine lv_iload_n hx hb dL_law_271 rfl (lv_at hl 3 rfl) ?_
  refine lv_iconst (v := (2 : Int32)) hx hb dL_law_272 (by decide) ?_
  refine lv_iadd hx hb dL_law_273 ?_
  refine va_sld hx hb hX hbl hbA hH.2.2.1 (hj 2 (by decide)) dL_law_274 ?_
  refine lv_aload_n hx hb dL_law_275 rfl (lv_at hl 0 rfl) ?_
  refine lv_iload_n hx hb dL_law_276 rfl (lv_at hl 3 rfl) ?_
  refine lv_iconst (v := (3 : Int32)) hx hb dL_law_277 (by decide) ?_
  refine lv_iadd hx hb dL_law_278 ?_
  refine va_sld hx hb hX hbl hbA hH.2.2.1 (hj 3 (by decide)) dL_law_279 ?_
  refine lv_aload_n hx hb dL_law_280 rfl (lv_at hl 0 rfl) ?_
  refine lv_iload_n hx hb dL_law_281 rfl (lv_at hl 3 rfl) ?_
  refine lv_iconst (v := (4 : Int32)) hx hb dL_law_282 (by decide) ?_
  refine lv_iadd hx hb dL_law_283 ?_
  refine va_sld hx hb hX hbl hbA hH.2.2.1 (hj 4 (by decide)) dL_law_284 ?_
  refine lv_aload_n hx hb dL_law_285 rfl (lv_at hl 0 rfl) ?_
  refine lv_iload_n hx hb dL_law_286 rfl (lv_at hl 3 rfl) ?_
  refine lv_iconst (v := (5 : Int32)) hx hb dL_law_287 (by decide) ?_
  refine lv_iadd hx hb dL_law_288 ?_
  refine va_sld hx hb hX hbl hbA hH.2.2.1 (hj 5 (by decide)) dL_law_289 ?_
  refine x_fi (x_runV (As := [.int (xs (Int32.toNatClampNeg (nI (6 * j) + (1 : Int32)))), .int (xs (Int32.toNatClampNeg (nI (6 * j) + (2 : Int32)))), .int (xs (Int32.toNatClampNeg (nI (6 * j) + (3 : Int32)))), .int (xs (Int32.toNatClampNeg (nI (6 * j) + (4 : Int32)))), .int (xs (Int32.toNatClampNeg (nI (6 * j) + (5 : Int32))))]) (rest := []) E (c_X3_join (post := fun r u => r = (sp_join S (xs (Int32.toNatClampNeg (nI (6 * j) + (1 : Int32)))) (xs (Int32.toNatClampNeg (nI (6 * j) + (2 : Int32)))) (xs (Int32.toNatClampNeg (nI (6 * j) + (3 : Int32)))) (xs (Int32.toNatClampNeg (nI (6 * j) + (4 : Int32)))) (xs (Int32.toNatClampNeg (nI (6 * j) + (5 : Int32))))).1 ∧ RelC u (sp_join S (xs (Int32.toNatClampNeg (nI (6 * j) + (1 : Int32)))) (xs (Int32.toNatClampNeg (nI (6 * j) + (2 : Int32)))) (xs (Int32.toNatClampNeg (nI (6 * j) + (3 : Int32)))) (xs (Int32.toNatClampNeg (nI (6 * j) + (4 : Int32)))) (xs (Int32.toNatClampNeg (nI (6 * j) + (5 : Int32))))).2) (pc_join hC (fun _ h9 => ⟨rfl, h9⟩))) yk_X3_join yi_X3_join km_L_23 ⟨Nat.le_of_ble_eq_true rfl, Nat.le_of_ble_eq_true rfl⟩ ⟨by show _ ≤ 600000; omega, by show _ ≤ 7302250; omega⟩ (x_part hH) (va_recv E.2.2.2.2.2.1 (x_part hH).1 (ci := 3) (q0 := 0) rfl wC_g0) hl.1 rfl rfl (lv_room (Nat.le_of_ble_eq_true rfl)) dL_law_290) hH (fun r u H locs h9 hH => ?_)
  obtain ⟨er, hC1⟩ := h9
  subst er
  have hH := x_swap hH
  refine lv_aload_n hx hb dL_law_293 rfl (lv_at hl 2 rfl) ?_
  refine lv_aload_n hx hb dL_law_294 rfl (lv_at hl 0 rfl) ?_
  refine lv_iload_n hx hb dL_law_295 rfl (lv_at hl 3 rfl) ?_
  refine lv_iconst (v := (1 : Int32)) hx hb dL_law_296 (by decide) ?_
  refine lv_iadd hx hb dL_law_297 ?_
  refine va_sld hx hb hX hbl hbA hH.2.2.1 (hj 1 (by decide)) dL_law_298 ?_
  refine lv_aload_n hx hb dL_law_299 rfl (lv_at hl 0 rfl) ?_
  refine lv_iload_n hx hb dL_law_300 rfl (lv_at hl 3 rfl) ?_
  refine lv_iconst (v := (2 : Int32)) hx hb dL_law_301 (by decide) ?_
  refine lv_iadd hx hb dL_law_302 ?_
  refine va_sld hx hb hX hbl hbA hH.2.2.1 (hj 2 (by decide)) dL_law_303 ?_
  refine lv_aload_n hx hb dL_law_304 rfl (lv_at hl 0 rfl) ?_
  refine lv_iload_n hx hb dL_law_305 rfl (lv_at hl 3 rfl) ?_
  refine lv_iconst (v := (3 : Int32)) hx hb dL_law_306 (by decide) ?_
  refine lv_iadd hx hb dL_law_307 ?_
  refine va_sld hx hb hX hbl hbA hH.2.2.1 (hj 3 (by decide)) dL_law_308 ?_
  refine lv_aload_n hx hb dL_law_309 rfl (lv_at hl 0 rfl) ?_
  refine lv_iload_n hx hb dL_law_310 rfl (lv_at hl 3 rfl) ?_
  refine lv_iconst (v := (4 : Int32)) hx hb dL_law_311 (by decide) ?_
  refine lv_iadd hx hb dL_law_312 ?_
  refine va_sld hx hb hX hbl hbA hH.2.2.1 (hj 4 (by decide)) dL_law_313 ?_
  refine lv_aload_n hx hb dL_law_314 rfl (lv_at hl 0 rfl) ?_
  refine lv_iload_n hx hb dL_law_315 rfl (lv_at hl 3 rfl) ?_
  refine lv_iconst (v := (5 : Int32)) hx hb dL_law_316 (by decide) ?_
  refine lv_iadd hx hb dL_law_317 ?_
  refine va_sld hx hb hX hbl hbA hH.2.2.1 (hj 5 (by decide)) dL_law_318 ?_
  refine x_fi (x_runV (As := [.int (xs (Int32.toNatClampNeg (nI (6 * j) + (1 : Int32)))), .int (xs (Int32.toNatClampNeg (nI (6 * j) + (2 : Int32)))), .int (xs (Int32.toNatClampNeg (nI (6 * j) + (3 : Int32)))), .int (xs (Int32.toNatClampNeg (nI (6 * j) + (4 : Int32)))), .int (xs (Int32.toNatClampNeg (nI (6 * j) + (5 : Int32))))]) (rest := [.int (sp_join S (xs (Int32.toNatClampNeg (nI (6 * j) + (1 : Int32)))) (xs (Int32.toNatClampNeg (nI (6 * j) + (2 : Int32)))) (xs (Int32.toNatClampNeg (nI (6 * j) + (3 : Int32)))) (xs (Int32.toNatClampNeg (nI (6 * j) + (4 : Int32)))) (xs (Int32.toNatClampNeg (nI (6 * j) + (5 : Int32))))).1]) E (c_X4_join (post := fun r u => r = (sp_join S (xs (Int32.toNatClampNeg (nI (6 * j) + (1 : Int32)))) (xs (Int32.toNatClampNeg (nI (6 * j) + (2 : Int32)))) (xs (Int32.toNatClampNeg (nI (6 * j) + (3 : Int32)))) (xs (Int32.toNatClampNeg (nI (6 * j) + (4 : Int32)))) (xs (Int32.toNatClampNeg (nI (6 * j) + (5 : Int32))))).1 ∧ RelM u (sp_join S (xs (Int32.toNatClampNeg (nI (6 * j) + (1 : Int32)))) (xs (Int32.toNatClampNeg (nI (6 * j) + (2 : Int32)))) (xs (Int32.toNatClampNeg (nI (6 * j) + (3 : Int32)))) (xs (Int32.toNatClampNeg (nI (6 * j) + (4 : Int32)))) (xs (Int32.toNatClampNeg (nI (6 * j) + (5 : Int32))))).2) (pm_join hM (fun _ h9 => ⟨rfl, h9⟩))) yk_X4_join yi_X4_join km_L_27 ⟨Nat.le_of_ble_eq_true rfl, Nat.le_of_ble_eq_true rfl⟩ ⟨by show _ ≤ 600000; omega, by show _ ≤ 7302250; omega⟩ (x_part hH) (va_recv E.2.2.2.2.2.1 (x_part hH).1 (ci := 4) (q0 := 0) rfl wM_g0) hl.1 rfl rfl (lv_room (Nat.le_of_ble_eq_true rfl)) dL_law_319) hH (fun r u H locs h9 hH => ?_)
  obtain ⟨er, hM1⟩ := h9
  subst er
  have hH := x_swap hH
  refine lv_icmp_eq (tgt := 1472) hx hb dL_law_322 (by decide) (fun _ => ?_) (fun h9 => absurd rfl h9)
  refine W.widen (k := cells + 3) (n := slots + 809) (by omega) (by omega) ?_
  exact K _ _ _ _ _ _ hC1 hM1 hH
set_option maxHeartbeats 4000000 in
set_option maxRecDepth 100000 in
theorem lw_c3 (E : Cx p s m #[Value.ref b] meth c cL_law 4 RL rt D (tyW cI cS cO)) (X : LX s A b L xs) (hj : ∀ t : Nat, t < 6 → vp_in (nI (6 * j) + nI t) L) (hcs : cells + 3 ≤ 600000 ∧ slots + 809 ≤ 7302250) (hC : RelC C S) (hM : RelM M S) (hH : HX D (wC cI cO a ad C ++ wM cI cS am M) A s.heap H locs) (hl : lv_has ls 4 [(0, .ref b), (1, .ref (a 0)), (2, .ref (am 0)), (3, .int (nI (6 * j)))]) (K : LKo p l e s m b below meth c D cI cS cO a am A Q ls cells slots) : W p l e room_1 s m #[Value.ref b] below meth c H locs cells slots Q (F0 m 327 ls []) := by
  have hx := E.1
  have hb := E.2.1
  obtain ⟨hX, hbl, hbA⟩ := X
  refine lv_aload_n hx hb dL_law_327 rfl (lv_at hl 1 rfl) ?_
  refine lv_aload_n hx hb dL_law_328 rfl (lv_at hl 0 rfl) ?_
  refine lv_iload_n hx hb dL_law_329 rfl (lv_at hl 3 rfl) ?_
  refine lv_iconst (v := (1 : Int32)) hx hb dL_law_330 (by decide) ?_
  refine lv_iadd hx hb dL_law_331 ?_
  refine va_sld hx hb hX hbl hbA hH.2.2.1 (hj 1 (by decide)) dL_law_332 ?_
  refine lv_aload_n hx hb dL_law_333 rfl (lv_at hl 0 rfl) ?_
  refine lv_iload_n hx hb dL_law_334 rfl (lv_at hl 3 rfl) ?_
  refine lv_iconst (v := (2 : Int32)) hx hb dL_law_335 (by decide) ?_
  refine lv_iadd hx hb dL_law_336 ?_
  refine va_sld hx hb hX hbl hbA hH.2.2.1 (hj 2 (by decide)) dL_law_337 ?_
  refine lv_aload_n hx hb dL_law_338 rfl (lv_at hl 0 rfl) ?_
  refine lv_iload_n hx hb dL_law_339 rfl (lv_at hl 3 rfl) ?_
  refine lv_iconst (v := (3 : Int32)) hx hb dL_law_340 (by decide) ?_
  refine lv_iadd hx hb dL_law_341 ?_
  refine va_sld hx hb hX hbl hbA hH.2.2.1 (hj 3 (by decide)) dL_law_342 ?_
  refine lv_aload_n hx hb dL_law_343 rfl (lv_at hl 0 rfl) ?_
  refine lv_iload_n hx hb dL_law_344 rfl (lv_at hl 3 rfl) ?_
  refine lv_iconst (v := (4 : Int32)) hx hb dL_law_345 (by decide) ?_
  refine lv_iadd hx hb dL_law_346 ?_
  refine va_sld hx hb hX hbl hbA hH.2.2.1 (hj 4 (by decide)) dL_law_347 ?_
  refine x_fi (x_runV (As := [.int (xs (Int32.toNatClampNeg (nI (6 * j) + (1 : Int32)))), .int (xs (Int32.toNatClampNeg (nI (6 * j) + (2 : Int32)))), .int (xs (Int32.toNatClampNeg (nI (6 * j) + (3 : Int32)))), .int (xs (Int32.toNatClampNeg (nI (6 * j) + (4 : Int32))))]) (rest := []) E (c_X3_turn (post := fun r u => r = (sp_turn S (xs (Int32.toNatClampNeg (nI (6 * j) + (1 : Int32)))) (xs (Int32.toNatClampNeg (nI (6 * j) + (2 : Int32)))) (xs (Int32.toNatClampNeg (nI (6 * j) + (3 : Int32)))) (xs (Int32.toNatClampNeg (nI (6 * j) + (4 : Int32))))).1 ∧ RelC u (sp_turn S (xs (Int32.toNatClampNeg (nI (6 * j) + (1 : Int32)))) (xs (Int32.toNatClampNeg (nI (6 * j) + (2 : Int32)))) (xs (Int32.toNatClampNeg (nI (6 * j) + (3 : Int32)))) (xs (Int32.toNatClampNeg (nI (6 * j) + (4 : Int32))))).2) (pc_turn hC (fun _ h9 => ⟨rfl, h9⟩))) yk_X3_turn yi_X3_turn km_L_28 ⟨Nat.le_of_ble_eq_true rfl, Nat.le_of_ble_eq_true rfl⟩ ⟨by show _ ≤ 600000; omega, by show _ ≤ 7302250; omega⟩ (x_part hH) (va_recv E.2.2.2.2.2.1 (x_part hH).1 (ci := 3) (q0 := 0) rfl wC_g0) hl.1 rfl rfl (lv_room (Nat.le_of_ble_eq_true rfl)) dL_law_348) hH (fun r u H locs h9 hH => ?_)
  obtain ⟨er, hC1⟩ := h9
  subst er
  have hH := x_swap hH
  refine lv_aload_n hx hb dL_law_351 rfl (lv_at hl 2 rfl) ?_
  refine lv_aload_n hx hb dL_law_352 rfl (lv_at hl 0 rfl) ?_
  refine lv_iload_n hx hb dL_law_353 rfl (lv_at hl 3 rfl) ?_
  refine lv_iconst (v := (1 : Int32)) hx hb dL_law_354 (by decide) ?_
  refine lv_iadd hx hb dL_law_355 ?_
  refine va_sld hx hb hX hbl hbA hH.2.2.1 (hj 1 (by decide)) dL_law_356 ?_
  refine lv_aload_n hx hb dL_law_357 rfl (lv_at hl 0 rfl) ?_
  refine lv_iload_n hx hb dL_law_358 rfl (lv_at hl 3 rfl) ?_
  refine lv_iconst (v := (2 : Int32)) hx hb dL_law_359 (by decide) ?_
  refine lv_iadd hx hb dL_law_360 ?_
  refine va_sld hx hb hX hbl hbA hH.2.2.1 (hj 2 (by decide)) dL_law_361 ?_
  refine lv_aload_n hx hb dL_law_362 rfl (lv_at hl 0 rfl) ?_
  refine lv_iload_n hx hb dL_law_363 rfl (lv_at hl 3 rfl) ?_
  refine lv_iconst (v := (3 : Int32)) hx hb dL_law_364 (by decide) ?_
  refine lv_iadd hx hb dL_law_365 ?_
  refine va_sld hx hb hX hbl hbA hH.2.2.1 (hj 3 (by decide)) dL_law_366 ?_
  refine lv_aload_n hx hb dL_law_367 rfl (lv_at hl 0 rfl) ?_
  refine lv_iload_n hx hb dL_law_368 rfl (lv_at hl 3 rfl) ?_
  refine lv_iconst (v := (4 : Int32)) hx hb dL_law_369 (by decide) ?_
  refine lv_iadd hx hb dL_law_370 ?_
  refine va_sld hx hb hX hbl hbA hH.2.2.1 (hj 4 (by decide)) dL_law_371 ?_
  refine x_fi (x_runV (As := [.int (xs (Int32.toNatClampNeg (nI (6 * j) + (1 : Int32)))), .int (xs (Int32.toNatClampNeg (nI (6 * j) + (2 : Int32)))), .int (xs (Int32.toNatClampNeg (nI (6 * j) + (3 : Int32)))), .int (xs (Int32.toNatClampNeg (nI (6 * j) + (4 : Int32))))]) (rest := [.int (sp_turn S (xs (Int32.toNatClampNeg (nI (6 * j) + (1 : Int32)))) (xs (Int32.toNatClampNeg (nI (6 * j) + (2 : Int32)))) (xs (Int32.toNatClampNeg (nI (6 * j) + (3 : Int32)))) (xs (Int32.toNatClampNeg (nI (6 * j) + (4 : Int32))))).1]) E (c_X4_turn (post := fun r u => r = (sp_turn S (xs (Int32.toNatClampNeg (nI (6 * j) + (1 : Int32)))) (xs (Int32.toNatClampNeg (nI (6 * j) + (2 : Int32)))) (xs (Int32.toNatClampNeg (nI (6 * j) + (3 : Int32)))) (xs (Int32.toNatClampNeg (nI (6 * j) + (4 : Int32))))).1 ∧ RelM u (sp_turn S (xs (Int32.toNatClampNeg (nI (6 * j) + (1 : Int32)))) (xs (Int32.toNatClampNeg (nI (6 * j) + (2 : Int32)))) (xs (Int32.toNatClampNeg (nI (6 * j) + (3 : Int32)))) (xs (Int32.toNatClampNeg (nI (6 * j) + (4 : Int32))))).2) (pm_turn hM (fun _ h9 => ⟨rfl, h9⟩))) yk_X4_turn yi_X4_turn km_L_31 ⟨Nat.le_of_ble_eq_true rfl, Nat.le_of_ble_eq_true rfl⟩ ⟨by show _ ≤ 600000; omega, by show _ ≤ 7302250; omega⟩ (x_part hH) (va_recv E.2.2.2.2.2.1 (x_part hH).1 (ci := 4) (q0 := 0) rfl wM_g0) hl.1 rfl rfl (lv_room (Nat.le_of_ble_eq_true rfl)) dL_law_372) hH (fun r u H locs h9 hH => ?_)
  obtain ⟨er, hM1⟩ := h9
  subst er
  have hH := x_swap hH
  refine lv_icmp_eq (tgt := 1472) hx hb dL_law_375 (by decide) (fun _ => ?_) (fun h9 => absurd rfl h9)
  refine W.widen (k := cells + 3) (n := slots + 809) (by omega) (by omega) ?_
  exact K _ _ _ _ _ _ hC1 hM1 hH
set_option maxHeartbeats 4000000 in
set_option maxRecDepth 100000 in
theorem lw_c4 (E : Cx p s m #[Value.ref b] meth c cL_law 4 RL rt D (tyW cI cS cO)) (X : LX s A b L xs) (hj : ∀ t : Nat, t < 6 → vp_in (nI (6 * j) + nI t) L) (hcs : cells + 3 ≤ 600000 ∧ slots + 809 ≤ 7302250) (hC : RelC C S) (hM : RelM M S) (hH : HX D (wC cI cO a ad C ++ wM cI cS am M) A s.heap H locs) (hl : lv_has ls 4 [(0, .ref b), (1, .ref (a 0)), (2, .ref (am 0)), (3, .int (nI (6 * j)))]) (K : LKo p l e s m b below meth c D cI cS cO a am A Q ls cells slots) : W p l e room_1 s m #[Value.ref b] below meth c H locs cells slots Q (F0 m 380 ls []) := by
  have hx := E.1
  have hb := E.2.1
  obtain ⟨hX, hbl, hbA⟩ := X
  refine lv_aload_n hx hb dL_law_380 rfl (lv_at hl 1 rfl) ?_
  refine lv_aload_n hx hb dL_law_381 rfl (lv_at hl 0 rfl) ?_
  refine lv_iload_n hx hb dL_law_382 rfl (lv_at hl 3 rfl) ?_
  refine lv_iconst (v := (1 : Int32)) hx hb dL_law_383 (by decide) ?_
  refine lv_iadd hx hb dL_law_384 ?_
  refine va_sld hx hb hX hbl hbA hH.2.2.1 (hj 1 (by decide)) dL_law_385 ?_
  refine lv_aload_n hx hb dL_law_386 rfl (lv_at hl 0 rfl) ?_
  refine lv_iload_n hx hb dL_law_387 rfl (lv_at hl 3 rfl) ?_
  refine lv_iconst (v := (2 : Int32)) hx hb dL_law_388 (by decide) ?_
  refine lv_iadd hx hb dL_law_389 ?_
  refine va_sld hx hb hX hbl hbA hH.2.2.1 (hj 2 (by decide)) dL_law_390 ?_
  refine x_fi (x_runV (As := [.int (xs (Int32.toNatClampNeg (nI (6 * j) + (1 : Int32)))), .int (xs (Int32.toNatClampNeg (nI (6 * j) + (2 : Int32))))]) (rest := []) E (c_X3_version (post := fun r u => r = (sp_version S (xs (Int32.toNatClampNeg (nI (6 * j) + (1 : Int32)))) (xs (Int32.toNatClampNeg (nI (6 * j) + (2 : Int32))))).1 ∧ RelC u (sp_version S (xs (Int32.toNatClampNeg (nI (6 * j) + (1 : Int32)))) (xs (Int32.toNatClampNeg (nI (6 * j) + (2 : Int32))))).2) (pc_version hC (fun _ h9 => ⟨rfl, h9⟩))) yk_X3_version yi_X3_version km_L_32 ⟨Nat.le_of_ble_eq_true rfl, Nat.le_of_ble_eq_true rfl⟩ ⟨by show _ ≤ 600000; omega, by show _ ≤ 7302250; omega⟩ (x_part hH) (va_recv E.2.2.2.2.2.1 (x_part hH).1 (ci := 3) (q0 := 0) rfl wC_g0) hl.1 rfl rfl (lv_room (Nat.le_of_ble_eq_true rfl)) dL_law_391) hH (fun r u H locs h9 hH => ?_)
  obtain ⟨er, hC1⟩ := h9
  subst er
  have hH := x_swap hH
  refine lv_aload_n hx hb dL_law_394 rfl (lv_at hl 2 rfl) ?_
  refine lv_aload_n hx hb dL_law_395 rfl (lv_at hl 0 rfl) ?_
  refine lv_iload_n hx hb dL_law_396 rfl (lv_at hl 3 rfl) ?_
  refine lv_iconst (v := (1 : Int32)) hx hb dL_law_397 (by decide) ?_
  refine lv_iadd hx hb dL_law_398 ?_
  refine va_sld hx hb hX hbl hbA hH.2.2.1 (hj 1 (by decide)) dL_law_399 ?_
  refine lv_aload_n hx hb dL_law_400 rfl (lv_at hl 0 rfl) ?_
  refine lv_iload_n hx hb dL_law_401 rfl (lv_at hl 3 rfl) ?_
  refine lv_iconst (v := (2 : Int32)) hx hb dL_law_402 (by decide) ?_
  refine lv_iadd hx hb dL_law_403 ?_
  refine va_sld hx hb hX hbl hbA hH.2.2.1 (hj 2 (by decide)) dL_law_404 ?_
  refine x_fi (x_runV (As := [.int (xs (Int32.toNatClampNeg (nI (6 * j) + (1 : Int32)))), .int (xs (Int32.toNatClampNeg (nI (6 * j) + (2 : Int32))))]) (rest := [.int (sp_version S (xs (Int32.toNatClampNeg (nI (6 * j) + (1 : Int32)))) (xs (Int32.toNatClampNeg (nI (6 * j) + (2 : Int32))))).1]) E (c_X4_version (post := fun r u => r = (sp_version S (xs (Int32.toNatClampNeg (nI (6 * j) + (1 : Int32)))) (xs (Int32.toNatClampNeg (nI (6 * j) + (2 : Int32))))).1 ∧ RelM u (sp_version S (xs (Int32.toNatClampNeg (nI (6 * j) + (1 : Int32)))) (xs (Int32.toNatClampNeg (nI (6 * j) + (2 : Int32))))).2) (pm_version hM (fun _ h9 => ⟨rfl, h9⟩))) yk_X4_version yi_X4_version km_L_36 ⟨Nat.le_of_ble_eq_true rfl, Nat.le_of_ble_eq_true rfl⟩ ⟨by show _ ≤ 600000; omega, by show _ ≤ 7302250; omega⟩ (x_part hH) (va_recv E.2.2.2.2.2.1 (x_part hH).1 (ci := 4) (q0 := 0) rfl wM_g0) hl.1 rfl rfl (lv_room (Nat.le_of_ble_eq_true rfl)) dL_law_405) hH (fun r u H locs h9 hH => ?_)
  obtain ⟨er, hM1⟩ := h9
  subst er
  have hH := x_swap hH
  refine lv_icmp_eq (tgt := 1472) hx hb dL_law_408 (by decide) (fun _ => ?_) (fun h9 => absurd rfl h9)
  refine W.widen (k := cells + 3) (n := slots + 809) (by omega) (by omega) ?_
  exact K _ _ _ _ _ _ hC1 hM1 hH
set_option maxHeartbeats 4000000 in
set_option maxRecDepth 100000 in
theorem lw_c5 (E : Cx p s m #[Value.ref b] meth c cL_law 4 RL rt D (tyW cI cS cO)) (X : LX s A b L xs) (hj : ∀ t : Nat, t < 6 → vp_in (nI (6 * j) + nI t) L) (hcs : cells + 3 ≤ 600000 ∧ slots + 809 ≤ 7302250) (hC : RelC C S) (hM : RelM M S) (hH : HX D (wC cI cO a ad C ++ wM cI cS am M) A s.heap H locs) (hl : lv_has ls 4 [(0, .ref b), (1, .ref (a 0)), (2, .ref (am 0)), (3, .int (nI (6 * j)))]) (K : LKo p l e s m b below meth c D cI cS cO a am A Q ls cells slots) : W p l e room_1 s m #[Value.ref b] below meth c H locs cells slots Q (F0 m 413 ls []) := by
  have hx := E.1
  have hb := E.2.1
  obtain ⟨hX, hbl, hbA⟩ := X
  refine lv_aload_n hx hb dL_law_413 rfl (lv_at hl 1 rfl) ?_
  refine lv_aload_n hx hb dL_law_414 rfl (lv_at hl 0 rfl) ?_
  refine lv_iload_n hx hb dL_law_415 rfl (lv_at hl 3 rfl) ?_
  refine lv_iconst (v := (1 : Int32)) hx hb dL_law_416 (by decide) ?_
  refine lv_iadd hx hb dL_law_417 ?_
  refine va_sld hx hb hX hbl hbA hH.2.2.1 (hj 1 (by decide)) dL_law_418 ?_
  refine lv_aload_n hx hb dL_law_419 rfl (lv_at hl 0 rfl) ?_
  refine lv_iload_n hx hb dL_law_420 rfl (lv_at hl 3 rfl) ?_
  refine lv_iconst (v := (2 : Int32)) hx hb dL_law_421 (by decide) ?_
  refine lv_iadd hx hb dL_law_422 ?_
  refine va_sld hx hb hX hbl hbA hH.2.2.1 (hj 2 (by decide)) dL_law_423 ?_
  refine x_fi (x_runV (As := [.int (xs (Int32.toNatClampNeg (nI (6 * j) + (1 : Int32)))), .int (xs (Int32.toNatClampNeg (nI (6 * j) + (2 : Int32))))]) (rest := []) E (c_X3_about (post := fun r u => r = (sp_about S (xs (Int32.toNatClampNeg (nI (6 * j) + (1 : Int32)))) (xs (Int32.toNatClampNeg (nI (6 * j) + (2 : Int32))))).1 ∧ RelC u (sp_about S (xs (Int32.toNatClampNeg (nI (6 * j) + (1 : Int32)))) (xs (Int32.toNatClampNeg (nI (6 * j) + (2 : Int32))))).2) (pc_about hC (fun _ h9 => ⟨rfl, h9⟩))) yk_X3_about yi_X3_about km_L_37 ⟨Nat.le_of_ble_eq_true rfl, Nat.le_of_ble_eq_true rfl⟩ ⟨by show _ ≤ 600000; omega, by show _ ≤ 7302250; omega⟩ (x_part hH) (va_recv E.2.2.2.2.2.1 (x_part hH).1 (ci := 3) (q0 := 0) rfl wC_g0) hl.1 rfl rfl (lv_room (Nat.le_of_ble_eq_true rfl)) dL_law_424) hH (fun r u H locs h9 hH => ?_)
  obtain ⟨er, hC1⟩ := h9
  subst er
  have hH := x_swap hH
  refine lv_aload_n hx hb dL_law_427 rfl (lv_at hl 2 rfl) ?_
  refine lv_aload_n hx hb dL_law_428 rfl (lv_at hl 0 rfl) ?_
  refine lv_iload_n hx hb dL_law_429 rfl (lv_at hl 3 rfl) ?_
  refine lv_iconst (v := (1 : Int32)) hx hb dL_law_430 (by decide) ?_
  refine lv_iadd hx hb dL_law_431 ?_
  refine va_sld hx hb hX hbl hbA hH.2.2.1 (hj 1 (by decide)) dL_law_432 ?_
  refine lv_aload_n hx hb dL_law_433 rfl (lv_at hl 0 rfl) ?_
  refine lv_iload_n hx hb dL_law_434 rfl (lv_at hl 3 rfl) ?_
  refine lv_iconst (v := (2 : Int32)) hx hb dL_law_435 (by decide) ?_
  refine lv_iadd hx hb dL_law_436 ?_
  refine va_sld hx hb hX hbl hbA hH.2.2.1 (hj 2 (by decide)) dL_law_437 ?_
  refine x_fi (x_runV (As := [.int (xs (Int32.toNatClampNeg (nI (6 * j) + (1 : Int32)))), .int (xs (Int32.toNatClampNeg (nI (6 * j) + (2 : Int32))))]) (rest := [.int (sp_about S (xs (Int32.toNatClampNeg (nI (6 * j) + (1 : Int32)))) (xs (Int32.toNatClampNeg (nI (6 * j) + (2 : Int32))))).1]) E (c_X4_about (post := fun r u => r = (sp_about S (xs (Int32.toNatClampNeg (nI (6 * j) + (1 : Int32)))) (xs (Int32.toNatClampNeg (nI (6 * j) + (2 : Int32))))).1 ∧ RelM u (sp_about S (xs (Int32.toNatClampNeg (nI (6 * j) + (1 : Int32)))) (xs (Int32.toNatClampNeg (nI (6 * j) + (2 : Int32))))).2) (pm_about hM (fun _ h9 => ⟨rfl, h9⟩))) yk_X4_about yi_X4_about km_L_40 ⟨Nat.le_of_ble_eq_true rfl, Nat.le_of_ble_eq_true rfl⟩ ⟨by show _ ≤ 600000; omega, by show _ ≤ 7302250; omega⟩ (x_part hH) (va_recv E.2.2.2.2.2.1 (x_part hH).1 (ci := 4) (q0 := 0) rfl wM_g0) hl.1 rfl rfl (lv_room (Nat.le_of_ble_eq_true rfl)) dL_law_438) hH (fun r u H locs h9 hH => ?_)
  obtain ⟨er, hM1⟩ := h9
  subst er
  have hH := x_swap hH
  refine lv_icmp_eq (tgt := 1472) hx hb dL_law_441 (by decide) (fun _ => ?_) (fun h9 => absurd rfl h9)
  refine W.widen (k := cells + 3) (n := slots + 809) (by omega) (by omega) ?_
  exact K _ _ _ _ _ _ hC1 hM1 hH
set_option maxHeartbeats 4000000 in
set_option maxRecDepth 100000 in
theorem lw_c6 (E : Cx p s m #[Value.ref b] meth c cL_law 4 RL rt D (tyW cI cS cO)) (X : LX s A b L xs) (hj : ∀ t : Nat, t < 6 → vp_in (nI (6 * j) + nI t) L) (hcs : cells + 3 ≤ 600000 ∧ slots + 809 ≤ 7302250) (hC : RelC C S) (hM : RelM M S) (hH : HX D (wC cI cO a ad C ++ wM cI cS am M) A s.heap H locs) (hl : lv_has ls 4 [(0, .ref b), (1, .ref (a 0)), (2, .ref (am 0)), (3, .int (nI (6 * j)))]) (K : LKo p l e s m b below meth c D cI cS cO a am A Q ls cells slots) : W p l e room_1 s m #[Value.ref b] below meth c H locs cells slots Q (F0 m 446 ls []) := by
  have hx := E.1
  have hb := E.2.1
  obtain ⟨hX, hbl, hbA⟩ := X
  refine lv_aload_n hx hb dL_law_446 rfl (lv_at hl 1 rfl) ?_
  refine lv_aload_n hx hb dL_law_447 rfl (lv_at hl 0 rfl) ?_
  refine lv_iload_n hx hb dL_law_448 rfl (lv_at hl 3 rfl) ?_
  refine lv_iconst (v := (1 : Int32)) hx hb dL_law_449 (by decide) ?_
  refine lv_iadd hx hb dL_law_450 ?_
  refine va_sld hx hb hX hbl hbA hH.2.2.1 (hj 1 (by decide)) dL_law_451 ?_
  refine lv_aload_n hx hb dL_law_452 rfl (lv_at hl 0 rfl) ?_
  refine lv_iload_n hx hb dL_law_453 rfl (lv_at hl 3 rfl) ?_
  refine lv_iconst (v := (2 : Int32)) hx hb dL_law_454 (by decide) ?_
  refine lv_iadd hx hb dL_law_455 ?_
  refine va_sld hx hb hX hbl hbA hH.2.2.1 (hj 2 (by decide)) dL_law_456 ?_
  refine x_fi (x_runV (As := [.int (xs (Int32.toNatClampNeg (nI (6 * j) + (1 : Int32)))), .int (xs (Int32.toNatClampNeg (nI (6 * j) + (2 : Int32))))]) (rest := []) E (c_X3_common (post := fun r u => r = (sp_common S (xs (Int32.toNatClampNeg (nI (6 * j) + (1 : Int32)))) (xs (Int32.toNatClampNeg (nI (6 * j) + (2 : Int32))))).1 ∧ RelC u (sp_common S (xs (Int32.toNatClampNeg (nI (6 * j) + (1 : Int32)))) (xs (Int32.toNatClampNeg (nI (6 * j) + (2 : Int32))))).2) (pc_common hC (fun _ h9 => ⟨rfl, h9⟩))) yk_X3_common yi_X3_common km_L_41 ⟨Nat.le_of_ble_eq_true rfl, Nat.le_of_ble_eq_true rfl⟩ ⟨by show _ ≤ 600000; omega, by show _ ≤ 7302250; omega⟩ (x_part hH) (va_recv E.2.2.2.2.2.1 (x_part hH).1 (ci := 3) (q0 := 0) rfl wC_g0) hl.1 rfl rfl (lv_room (Nat.le_of_ble_eq_true rfl)) dL_law_457) hH (fun r u H locs h9 hH => ?_)
  obtain ⟨er, hC1⟩ := h9
  subst er
  have hH := x_swap hH
  refine lv_aload_n hx hb dL_law_460 rfl (lv_at hl 2 rfl) ?_
  refine lv_aload_n hx hb dL_law_461 rfl (lv_at hl 0 rfl) ?_
  refine lv_iload_n hx hb dL_law_462 rfl (lv_at hl 3 rfl) ?_
  refine lv_iconst (v := (1 : Int32)) hx hb dL_law_463 (by decide) ?_
  refine lv_iadd hx hb dL_law_464 ?_
  refine va_sld hx hb hX hbl hbA hH.2.2.1 (hj 1 (by decide)) dL_law_465 ?_
  refine lv_aload_n hx hb dL_law_466 rfl (lv_at hl 0 rfl) ?_
  refine lv_iload_n hx hb dL_law_467 rfl (lv_at hl 3 rfl) ?_
  refine lv_iconst (v := (2 : Int32)) hx hb dL_law_468 (by decide) ?_
  refine lv_iadd hx hb dL_law_469 ?_
  refine va_sld hx hb hX hbl hbA hH.2.2.1 (hj 2 (by decide)) dL_law_470 ?_
  refine x_fi (x_runV (As := [.int (xs (Int32.toNatClampNeg (nI (6 * j) + (1 : Int32)))), .int (xs (Int32.toNatClampNeg (nI (6 * j) + (2 : Int32))))]) (rest := [.int (sp_common S (xs (Int32.toNatClampNeg (nI (6 * j) + (1 : Int32)))) (xs (Int32.toNatClampNeg (nI (6 * j) + (2 : Int32))))).1]) E (c_X4_common (post := fun r u => r = (sp_common S (xs (Int32.toNatClampNeg (nI (6 * j) + (1 : Int32)))) (xs (Int32.toNatClampNeg (nI (6 * j) + (2 : Int32))))).1 ∧ RelM u (sp_common S (xs (Int32.toNatClampNeg (nI (6 * j) + (1 : Int32)))) (xs (Int32.toNatClampNeg (nI (6 * j) + (2 : Int32))))).2) (pm_common hM (fun _ h9 => ⟨rfl, h9⟩))) yk_X4_common yi_X4_common km_L_44 ⟨Nat.le_of_ble_eq_true rfl, Nat.le_of_ble_eq_true rfl⟩ ⟨by show _ ≤ 600000; omega, by show _ ≤ 7302250; omega⟩ (x_part hH) (va_recv E.2.2.2.2.2.1 (x_part hH).1 (ci := 4) (q0 := 0) rfl wM_g0) hl.1 rfl rfl (lv_room (Nat.le_of_ble_eq_true rfl)) dL_law_471) hH (fun r u H locs h9 hH => ?_)
  obtain ⟨er, hM1⟩ := h9
  subst er
  have hH := x_swap hH
  refine lv_icmp_eq (tgt := 1472) hx hb dL_law_474 (by decide) (fun _ => ?_) (fun h9 => absurd rfl h9)
  refine W.widen (k := cells + 3) (n := slots + 809) (by omega) (by omega) ?_
  exact K _ _ _ _ _ _ hC1 hM1 hH
set_option maxHeartbeats 4000000 in
set_option maxRecDepth 100000 in
theorem lw_c7 (E : Cx p s m #[Value.ref b] meth c cL_law 4 RL rt D (tyW cI cS cO)) (X : LX s A b L xs) (hj : ∀ t : Nat, t < 6 → vp_in (nI (6 * j) + nI t) L) (hcs : cells + 3 ≤ 600000 ∧ slots + 809 ≤ 7302250) (hC : RelC C S) (hM : RelM M S) (hH : HX D (wC cI cO a ad C ++ wM cI cS am M) A s.heap H locs) (hl : lv_has ls 4 [(0, .ref b), (1, .ref (a 0)), (2, .ref (am 0)), (3, .int (nI (6 * j)))]) (K : LKo p l e s m b below meth c D cI cS cO a am A Q ls cells slots) : W p l e room_1 s m #[Value.ref b] below meth c H locs cells slots Q (F0 m 479 ls []) := by
  have hx := E.1
  have hb := E.2.1
  obtain ⟨hX, hbl, hbA⟩ := X
  refine lv_aload_n hx hb dL_law_479 rfl (lv_at hl 1 rfl) ?_
  refine lv_aload_n hx hb dL_law_480 rfl (lv_at hl 0 rfl) ?_
  refine lv_iload_n hx hb dL_law_481 rfl (lv_at hl 3 rfl) ?_
  refine lv_iconst (v := (1 : Int32)) hx hb dL_law_482 (by decide) ?_
  refine lv_iadd hx hb dL_law_483 ?_
  refine va_sld hx hb hX hbl hbA hH.2.2.1 (hj 1 (by decide)) dL_law_484 ?_
  suffices kk : ∀ z9 : Int32, z9 = zb (xs (Int32.toNatClampNeg (nI (6 * j) + (1 : Int32)))) → W p l e room_1 s m #[Value.ref b] below meth c H locs cells slots Q (F0 m 493 ls [.int z9, .ref (a 0)]) by
    refine lv_if_eq (tgt := 492) hx hb dL_law_485 (by decide) (fun hz => ?_) (fun hz => ?_)
    · refine lv_iconst (v := (0 : Int32)) hx hb dL_law_492 (by decide) ?_
      exact kk 0 (by rw [zb, if_pos hz])
    · refine lv_iconst (v := (1 : Int32)) hx hb dL_law_488 (by decide) ?_
      refine lv_goto (tgt := 493) hx hb dL_law_489 (by decide) ?_
      exact kk 1 (by rw [zb, if_neg hz])
  intro z9 ez9
  subst ez9
  refine x_fi (x_runV (As := [.int (zb (xs (Int32.toNatClampNeg (nI (6 * j) + (1 : Int32)))))]) (rest := []) E (c_X3_versions (post := fun r u => r = (sp_versions S (zb (xs (Int32.toNatClampNeg (nI (6 * j) + (1 : Int32)))))).1 ∧ RelC u (sp_versions S (zb (xs (Int32.toNatClampNeg (nI (6 * j) + (1 : Int32)))))).2) (pc_versions hC (fun _ h9 => ⟨rfl, h9⟩))) yk_X3_versions yi_X3_versions km_L_45 ⟨Nat.le_of_ble_eq_true rfl, Nat.le_of_ble_eq_true rfl⟩ ⟨by show _ ≤ 600000; omega, by show _ ≤ 7302250; omega⟩ (x_part hH) (va_recv E.2.2.2.2.2.1 (x_part hH).1 (ci := 3) (q0 := 0) rfl wC_g0) hl.1 rfl rfl (lv_room (Nat.le_of_ble_eq_true rfl)) dL_law_493) hH (fun r u H locs h9 hH => ?_)
  obtain ⟨er, hC1⟩ := h9
  subst er
  have hH := x_swap hH
  refine lv_aload_n hx hb dL_law_496 rfl (lv_at hl 2 rfl) ?_
  refine lv_aload_n hx hb dL_law_497 rfl (lv_at hl 0 rfl) ?_
  refine lv_iload_n hx hb dL_law_498 rfl (lv_at hl 3 rfl) ?_
  refine lv_iconst (v := (1 : Int32)) hx hb dL_law_499 (by decide) ?_
  refine lv_iadd hx hb dL_law_500 ?_
  refine va_sld hx hb hX hbl hbA hH.2.2.1 (hj 1 (by decide)) dL_law_501 ?_
  suffices kk : ∀ z9 : Int32, z9 = zb (xs (Int32.toNatClampNeg (nI (6 * j) + (1 : Int32)))) → W p l e room_1 s m #[Value.ref b] below meth c H locs (cells + 0) (slots + 0) Q (F0 m 510 ls [.int z9, .ref (am 0), .int (sp_versions S (zb (xs (Int32.toNatClampNeg (nI (6 * j) + (1 : Int32)))))).1]) by
    refine lv_if_eq (tgt := 509) hx hb dL_law_502 (by decide) (fun hz => ?_) (fun hz => ?_)
    · refine lv_iconst (v := (0 : Int32)) hx hb dL_law_509 (by decide) ?_
      exact kk 0 (by rw [zb, if_pos hz])
    · refine lv_iconst (v := (1 : Int32)) hx hb dL_law_505 (by decide) ?_
      refine lv_goto (tgt := 510) hx hb dL_law_506 (by decide) ?_
      exact kk 1 (by rw [zb, if_neg hz])
  intro z9 ez9
  subst ez9
  refine x_fi (x_runV (As := [.int (zb (xs (Int32.toNatClampNeg (nI (6 * j) + (1 : Int32)))))]) (rest := [.int (sp_versions S (zb (xs (Int32.toNatClampNeg (nI (6 * j) + (1 : Int32)))))).1]) E (c_X4_versions (post := fun r u => r = (sp_versions S (zb (xs (Int32.toNatClampNeg (nI (6 * j) + (1 : Int32)))))).1 ∧ RelM u (sp_versions S (zb (xs (Int32.toNatClampNeg (nI (6 * j) + (1 : Int32)))))).2) (pm_versions hM (fun _ h9 => ⟨rfl, h9⟩))) yk_X4_versions yi_X4_versions km_L_49 ⟨Nat.le_of_ble_eq_true rfl, Nat.le_of_ble_eq_true rfl⟩ ⟨by show _ ≤ 600000; omega, by show _ ≤ 7302250; omega⟩ (x_part hH) (va_recv E.2.2.2.2.2.1 (x_part hH).1 (ci := 4) (q0 := 0) rfl wM_g0) hl.1 rfl rfl (lv_room (Nat.le_of_ble_eq_true rfl)) dL_law_510) hH (fun r u H locs h9 hH => ?_)
  obtain ⟨er, hM1⟩ := h9
  subst er
  have hH := x_swap hH
  refine lv_icmp_eq (tgt := 1472) hx hb dL_law_513 (by decide) (fun _ => ?_) (fun h9 => absurd rfl h9)
  refine W.widen (k := cells + 3) (n := slots + 809) (by omega) (by omega) ?_
  exact K _ _ _ _ _ _ hC1 hM1 hH
set_option maxHeartbeats 4000000 in
set_option maxRecDepth 100000 in
theorem lw_c8 (E : Cx p s m #[Value.ref b] meth c cL_law 4 RL rt D (tyW cI cS cO)) (X : LX s A b L xs) (hj : ∀ t : Nat, t < 6 → vp_in (nI (6 * j) + nI t) L) (hcs : cells + 3 ≤ 600000 ∧ slots + 809 ≤ 7302250) (hC : RelC C S) (hM : RelM M S) (hH : HX D (wC cI cO a ad C ++ wM cI cS am M) A s.heap H locs) (hl : lv_has ls 4 [(0, .ref b), (1, .ref (a 0)), (2, .ref (am 0)), (3, .int (nI (6 * j)))]) (K : LKo p l e s m b below meth c D cI cS cO a am A Q ls cells slots) : W p l e room_1 s m #[Value.ref b] below meth c H locs cells slots Q (F0 m 518 ls []) := by
  have hx := E.1
  have hb := E.2.1
  obtain ⟨hX, hbl, hbA⟩ := X
  refine lv_aload_n hx hb dL_law_518 rfl (lv_at hl 1 rfl) ?_
  refine lv_aload_n hx hb dL_law_519 rfl (lv_at hl 0 rfl) ?_
  refine lv_iload_n hx hb dL_law_520 rfl (lv_at hl 3 rfl) ?_
  refine lv_iconst (v := (1 : Int32)) hx hb dL_law_521 (by decide) ?_
  refine lv_iadd hx hb dL_law_522 ?_
  refine va_sld hx hb hX hbl hbA hH.2.2.1 (hj 1 (by decide)) dL_law_523 ?_
  refine lv_aload_n hx hb dL_law_524 rfl (lv_at hl 0 rfl) ?_
  refine lv_iload_n hx hb dL_law_525 rfl (lv_at hl 3 rfl) ?_
  refine lv_iconst (v := (2 : Int32)) hx hb dL_law_526 (by decide) ?_
  refine lv_iadd hx hb dL_law_527 ?_
  refine va_sld hx hb hX hbl hbA hH.2.2.1 (hj 2 (by decide)) dL_law_528 ?_
  refine lv_aload_n hx hb dL_law_529 rfl (lv_at hl 0 rfl) ?_
  refine lv_iload_n hx hb dL_law_530 rfl (lv_at hl 3 rfl) ?_
  refine lv_iconst (v := (3 : Int32)) hx hb dL_law_531 (by decide) ?_
  refine lv_iadd hx hb dL_law_532 ?_
  refine va_sld hx hb hX hbl hbA hH.2.2.1 (hj 3 (by decide)) dL_law_533 ?_
  suffices kk : ∀ z9 : Int32, z9 = zb (xs (Int32.toNatClampNeg (nI (6 * j) + (3 : Int32)))) → W p l e room_1 s m #[Value.ref b] below meth c H locs cells slots Q (F0 m 542 ls [.int z9, .int (xs (Int32.toNatClampNeg (nI (6 * j) + (2 : Int32)))), .int (xs (Int32.toNatClampNeg (nI (6 * j) + (1 : Int32)))), .ref (a 0)]) by
    refine lv_if_eq (tgt := 541) hx hb dL_law_534 (by decide) (fun hz => ?_) (fun hz => ?_)
    · refine lv_iconst (v := (0 : Int32)) hx hb dL_law_541 (by decide) ?_
      exact kk 0 (by rw [zb, if_pos hz])
    · refine lv_iconst (v := (1 : Int32)) hx hb dL_law_537 (by decide) ?_
      refine lv_goto (tgt := 542) hx hb dL_law_538 (by decide) ?_
      exact kk 1 (by rw [zb, if_neg hz])
  intro z9 ez9
  subst ez9
  refine x_fi (x_runV (As := [.int (xs (Int32.toNatClampNeg (nI (6 * j) + (1 : Int32)))), .int (xs (Int32.toNatClampNeg (nI (6 * j) + (2 : Int32)))), .int (zb (xs (Int32.toNatClampNeg (nI (6 * j) + (3 : Int32)))))]) (rest := []) E (c_X3_seal (post := fun r u => r = (sp_seal S (xs (Int32.toNatClampNeg (nI (6 * j) + (1 : Int32)))) (xs (Int32.toNatClampNeg (nI (6 * j) + (2 : Int32)))) (zb (xs (Int32.toNatClampNeg (nI (6 * j) + (3 : Int32)))))).1 ∧ RelC u (sp_seal S (xs (Int32.toNatClampNeg (nI (6 * j) + (1 : Int32)))) (xs (Int32.toNatClampNeg (nI (6 * j) + (2 : Int32)))) (zb (xs (Int32.toNatClampNeg (nI (6 * j) + (3 : Int32)))))).2) (pc_seal hC (fun _ h9 => ⟨rfl, h9⟩))) yk_X3_seal yi_X3_seal km_L_50 ⟨Nat.le_of_ble_eq_true rfl, Nat.le_of_ble_eq_true rfl⟩ ⟨by show _ ≤ 600000; omega, by show _ ≤ 7302250; omega⟩ (x_part hH) (va_recv E.2.2.2.2.2.1 (x_part hH).1 (ci := 3) (q0 := 0) rfl wC_g0) hl.1 rfl rfl (lv_room (Nat.le_of_ble_eq_true rfl)) dL_law_542) hH (fun r u H locs h9 hH => ?_)
  obtain ⟨er, hC1⟩ := h9
  subst er
  have hH := x_swap hH
  refine lv_aload_n hx hb dL_law_545 rfl (lv_at hl 2 rfl) ?_
  refine lv_aload_n hx hb dL_law_546 rfl (lv_at hl 0 rfl) ?_
  refine lv_iload_n hx hb dL_law_547 rfl (lv_at hl 3 rfl) ?_
  refine lv_iconst (v := (1 : Int32)) hx hb dL_law_548 (by decide) ?_
  refine lv_iadd hx hb dL_law_549 ?_
  refine va_sld hx hb hX hbl hbA hH.2.2.1 (hj 1 (by decide)) dL_law_550 ?_
  refine lv_aload_n hx hb dL_law_551 rfl (lv_at hl 0 rfl) ?_
  refine lv_iload_n hx hb dL_law_552 rfl (lv_at hl 3 rfl) ?_
  refine lv_iconst (v := (2 : Int32)) hx hb dL_law_553 (by decide) ?_
  refine lv_iadd hx hb dL_law_554 ?_
  refine va_sld hx hb hX hbl hbA hH.2.2.1 (hj 2 (by decide)) dL_law_555 ?_
  refine lv_aload_n hx hb dL_law_556 rfl (lv_at hl 0 rfl) ?_
  refine lv_iload_n hx hb dL_law_557 rfl (lv_at hl 3 rfl) ?_
  refine lv_iconst (v := (3 : Int32)) hx hb dL_law_558 (by decide) ?_
  refine lv_iadd hx hb dL_law_559 ?_
  refine va_sld hx hb hX hbl hbA hH.2.2.1 (hj 3 (by decide)) dL_law_560 ?_
  suffices kk : ∀ z9 : Int32, z9 = zb (xs (Int32.toNatClampNeg (nI (6 * j) + (3 : Int32)))) → W p l e room_1 s m #[Value.ref b] below meth c H locs (cells + 0) (slots + 0) Q (F0 m 569 ls [.int z9, .int (xs (Int32.toNatClampNeg (nI (6 * j) + (2 : Int32)))), .int (xs (Int32.toNatClampNeg (nI (6 * j) + (1 : Int32)))), .ref (am 0), .int (sp_seal S (xs (Int32.toNatClampNeg (nI (6 * j) + (1 : Int32)))) (xs (Int32.toNatClampNeg (nI (6 * j) + (2 : Int32)))) (zb (xs (Int32.toNatClampNeg (nI (6 * j) + (3 : Int32)))))).1]) by
    refine lv_if_eq (tgt := 568) hx hb dL_law_561 (by decide) (fun hz => ?_) (fun hz => ?_)
    · refine lv_iconst (v := (0 : Int32)) hx hb dL_law_568 (by decide) ?_
      exact kk 0 (by rw [zb, if_pos hz])
    · refine lv_iconst (v := (1 : Int32)) hx hb dL_law_564 (by decide) ?_
      refine lv_goto (tgt := 569) hx hb dL_law_565 (by decide) ?_
      exact kk 1 (by rw [zb, if_neg hz])
  intro z9 ez9
  subst ez9
  refine x_fi (x_runV (As := [.int (xs (Int32.toNatClampNeg (nI (6 * j) + (1 : Int32)))), .int (xs (Int32.toNatClampNeg (nI (6 * j) + (2 : Int32)))), .int (zb (xs (Int32.toNatClampNeg (nI (6 * j) + (3 : Int32)))))]) (rest := [.int (sp_seal S (xs (Int32.toNatClampNeg (nI (6 * j) + (1 : Int32)))) (xs (Int32.toNatClampNeg (nI (6 * j) + (2 : Int32)))) (zb (xs (Int32.toNatClampNeg (nI (6 * j) + (3 : Int32)))))).1]) E (c_X4_seal (post := fun r u => r = (sp_seal S (xs (Int32.toNatClampNeg (nI (6 * j) + (1 : Int32)))) (xs (Int32.toNatClampNeg (nI (6 * j) + (2 : Int32)))) (zb (xs (Int32.toNatClampNeg (nI (6 * j) + (3 : Int32)))))).1 ∧ RelM u (sp_seal S (xs (Int32.toNatClampNeg (nI (6 * j) + (1 : Int32)))) (xs (Int32.toNatClampNeg (nI (6 * j) + (2 : Int32)))) (zb (xs (Int32.toNatClampNeg (nI (6 * j) + (3 : Int32)))))).2) (pm_seal hM (fun _ h9 => ⟨rfl, h9⟩))) yk_X4_seal yi_X4_seal km_L_54 ⟨Nat.le_of_ble_eq_true rfl, Nat.le_of_ble_eq_true rfl⟩ ⟨by show _ ≤ 600000; omega, by show _ ≤ 7302250; omega⟩ (x_part hH) (va_recv E.2.2.2.2.2.1 (x_part hH).1 (ci := 4) (q0 := 0) rfl wM_g0) hl.1 rfl rfl (lv_room (Nat.le_of_ble_eq_true rfl)) dL_law_569) hH (fun r u H locs h9 hH => ?_)
  obtain ⟨er, hM1⟩ := h9
  subst er
  have hH := x_swap hH
  refine lv_icmp_eq (tgt := 1472) hx hb dL_law_572 (by decide) (fun _ => ?_) (fun h9 => absurd rfl h9)
  refine W.widen (k := cells + 3) (n := slots + 809) (by omega) (by omega) ?_
  exact K _ _ _ _ _ _ hC1 hM1 hH
set_option maxHeartbeats 4000000 in
set_option maxRecDepth 100000 in
theorem lw_c9 (E : Cx p s m #[Value.ref b] meth c cL_law 4 RL rt D (tyW cI cS cO)) (X : LX s A b L xs) (hj : ∀ t : Nat, t < 6 → vp_in (nI (6 * j) + nI t) L) (hcs : cells + 3 ≤ 600000 ∧ slots + 809 ≤ 7302250) (hC : RelC C S) (hM : RelM M S) (hH : HX D (wC cI cO a ad C ++ wM cI cS am M) A s.heap H locs) (hl : lv_has ls 4 [(0, .ref b), (1, .ref (a 0)), (2, .ref (am 0)), (3, .int (nI (6 * j)))]) (K : LKo p l e s m b below meth c D cI cS cO a am A Q ls cells slots) : W p l e room_1 s m #[Value.ref b] below meth c H locs cells slots Q (F0 m 577 ls []) := by
  have hx := E.1
  have hb := E.2.1
  obtain ⟨hX, hbl, hbA⟩ := X
  refine lv_aload_n hx hb dL_law_577 rfl (lv_at hl 1 rfl) ?_
  refine lv_aload_n hx hb dL_law_578 rfl (lv_at hl 0 rfl) ?_
  refine lv_iload_n hx hb dL_law_579 rfl (lv_at hl 3 rfl) ?_
  refine lv_iconst (v := (1 : Int32)) hx hb dL_law_580 (by decide) ?_
  refine lv_iadd hx hb dL_law_581 ?_
  refine va_sld hx hb hX hbl hbA hH.2.2.1 (hj 1 (by decide)) dL_law_582 ?_
  refine lv_aload_n hx hb dL_law_583 rfl (lv_at hl 0 rfl) ?_
  refine lv_iload_n hx hb dL_law_584 rfl (lv_at hl 3 rfl) ?_
  refine lv_iconst (v := (2 : Int32)) hx hb dL_law_585 (by decide) ?_
  refine lv_iadd hx hb dL_law_586 ?_
  refine va_sld hx hb hX hbl hbA hH.2.2.1 (hj 2 (by decide)) dL_law_587 ?_
  refine x_fi (x_runV (As := [.int (xs (Int32.toNatClampNeg (nI (6 * j) + (1 : Int32)))), .int (xs (Int32.toNatClampNeg (nI (6 * j) + (2 : Int32))))]) (rest := []) E (c_X3_put (post := fun r u => r = (sp_put S (xs (Int32.toNatClampNeg (nI (6 * j) + (1 : Int32)))) (xs (Int32.toNatClampNeg (nI (6 * j) + (2 : Int32))))).1 ∧ RelC u (sp_put S (xs (Int32.toNatClampNeg (nI (6 * j) + (1 : Int32)))) (xs (Int32.toNatClampNeg (nI (6 * j) + (2 : Int32))))).2) (pc_put hC (fun _ h9 => ⟨rfl, h9⟩))) yk_X3_put yi_X3_put km_L_55 ⟨Nat.le_of_ble_eq_true rfl, Nat.le_of_ble_eq_true rfl⟩ ⟨by show _ ≤ 600000; omega, by show _ ≤ 7302250; omega⟩ (x_part hH) (va_recv E.2.2.2.2.2.1 (x_part hH).1 (ci := 3) (q0 := 0) rfl wC_g0) hl.1 rfl rfl (lv_room (Nat.le_of_ble_eq_true rfl)) dL_law_588) hH (fun r u H locs h9 hH => ?_)
  obtain ⟨er, hC1⟩ := h9
  subst er
  have hH := x_swap hH
  refine lv_aload_n hx hb dL_law_591 rfl (lv_at hl 2 rfl) ?_
  refine lv_aload_n hx hb dL_law_592 rfl (lv_at hl 0 rfl) ?_
  refine lv_iload_n hx hb dL_law_593 rfl (lv_at hl 3 rfl) ?_
  refine lv_iconst (v := (1 : Int32)) hx hb dL_law_594 (by decide) ?_
  refine lv_iadd hx hb dL_law_595 ?_
  refine va_sld hx hb hX hbl hbA hH.2.2.1 (hj 1 (by decide)) dL_law_596 ?_
  refine lv_aload_n hx hb dL_law_597 rfl (lv_at hl 0 rfl) ?_
  refine lv_iload_n hx hb dL_law_598 rfl (lv_at hl 3 rfl) ?_
  refine lv_iconst (v := (2 : Int32)) hx hb dL_law_599 (by decide) ?_
  refine lv_iadd hx hb dL_law_600 ?_
  refine va_sld hx hb hX hbl hbA hH.2.2.1 (hj 2 (by decide)) dL_law_601 ?_
  refine x_fi (x_runV (As := [.int (xs (Int32.toNatClampNeg (nI (6 * j) + (1 : Int32)))), .int (xs (Int32.toNatClampNeg (nI (6 * j) + (2 : Int32))))]) (rest := [.int (sp_put S (xs (Int32.toNatClampNeg (nI (6 * j) + (1 : Int32)))) (xs (Int32.toNatClampNeg (nI (6 * j) + (2 : Int32))))).1]) E (c_X4_put (post := fun r u => r = (sp_put S (xs (Int32.toNatClampNeg (nI (6 * j) + (1 : Int32)))) (xs (Int32.toNatClampNeg (nI (6 * j) + (2 : Int32))))).1 ∧ RelM u (sp_put S (xs (Int32.toNatClampNeg (nI (6 * j) + (1 : Int32)))) (xs (Int32.toNatClampNeg (nI (6 * j) + (2 : Int32))))).2) (pm_put hM (fun _ h9 => ⟨rfl, h9⟩))) yk_X4_put yi_X4_put km_L_58 ⟨Nat.le_of_ble_eq_true rfl, Nat.le_of_ble_eq_true rfl⟩ ⟨by show _ ≤ 600000; omega, by show _ ≤ 7302250; omega⟩ (x_part hH) (va_recv E.2.2.2.2.2.1 (x_part hH).1 (ci := 4) (q0 := 0) rfl wM_g0) hl.1 rfl rfl (lv_room (Nat.le_of_ble_eq_true rfl)) dL_law_602) hH (fun r u H locs h9 hH => ?_)
  obtain ⟨er, hM1⟩ := h9
  subst er
  have hH := x_swap hH
  refine lv_icmp_eq (tgt := 1472) hx hb dL_law_605 (by decide) (fun _ => ?_) (fun h9 => absurd rfl h9)
  refine W.widen (k := cells + 3) (n := slots + 809) (by omega) (by omega) ?_
  exact K _ _ _ _ _ _ hC1 hM1 hH
end LAWC
