theorem ka_int : Cond.arrayClass .int ∈ gT := gT_mk (by decide +kernel) (by decide +kernel)
theorem ka_short : Cond.arrayClass .short ∈ gT := gT_mk (by decide +kernel) (by decide +kernel)
theorem ka_over : Cond.arrayOver (.object "RankShelf$Version") ∈ nestL := nestL_mk (by decide +kernel) rfl
theorem ko_inst : Cond.instanceMethod objectInit ∈ gT := gT_mk (by decide +kernel) (by decide +kernel)
theorem ko_code : Cond.code objectInit ⟨#[0xb1]⟩ 1 none ∈ gT := gT_mk (by decide +kernel) (by decide +kernel)
theorem kcl_L_7 : Cond.classLink RL 7 RX3 ∈ gT := gT_mk (by decide +kernel) (by decide +kernel)
theorem kcl_X3_9 : Cond.classLink RX3 9 RX2 ∈ gT := gT_mk (by decide +kernel) (by decide +kernel)
theorem kcl_X3_22 : Cond.classLink RX3 22 RX0 ∈ gT := gT_mk (by decide +kernel) (by decide +kernel)
theorem kcl_X3_32 : Cond.classLink RX3 32 RX1 ∈ gT := gT_mk (by decide +kernel) (by decide +kernel)
theorem kcl_L_10 : Cond.classLink RL 10 RX4 ∈ gT := gT_mk (by decide +kernel) (by decide +kernel)
theorem kin_X0 : Cond.instantiable RX0 4 ∈ gT := gT_mk (by decide +kernel) (by decide +kernel)
theorem kit_X0 : Cond.initialized RX0 ∈ gT := gT_mk (by decide +kernel) (by decide +kernel)
theorem kin_X1 : Cond.instantiable RX1 2 ∈ gT := gT_mk (by decide +kernel) (by decide +kernel)
theorem kit_X1 : Cond.initialized RX1 ∈ gT := gT_mk (by decide +kernel) (by decide +kernel)
theorem kin_X2 : Cond.instantiable RX2 9 ∈ gT := gT_mk (by decide +kernel) (by decide +kernel)
theorem kit_X2 : Cond.initialized RX2 ∈ gT := gT_mk (by decide +kernel) (by decide +kernel)
theorem kin_X3 : Cond.instantiable RX3 11 ∈ gT := gT_mk (by decide +kernel) (by decide +kernel)
theorem kit_X3 : Cond.initialized RX3 ∈ gT := gT_mk (by decide +kernel) (by decide +kernel)
theorem kin_X4 : Cond.instantiable RX4 20 ∈ gT := gT_mk (by decide +kernel) (by decide +kernel)
theorem kit_X4 : Cond.initialized RX4 ∈ gT := gT_mk (by decide +kernel) (by decide +kernel)
theorem app_get {wr L : va_W} {j : Nat} {x : Nat × va_E} (h : L[j]? = some x) : (wr ++ L)[wr.length + j]? = some x := by
  rw [List.getElem?_append_right (Nat.le_add_right _ _), Nat.add_sub_cancel_left]; exact h
theorem app_set {wr L : va_W} {j : Nat} {x : Nat × va_E} : (wr ++ L).set (wr.length + j) x = wr ++ L.set j x := by
  rw [List.set_append_right _ _ (Nat.le_add_right _ _), Nat.add_sub_cancel_left]
theorem app_l {wr L : va_W} {j : Nat} {x : Nat × va_E} (h : wr[j]? = some x) : (wr ++ L)[j]? = some x := by
  rw [List.getElem?_append_left (List.getElem?_eq_some_iff.mp h).1]; exact h
section XALLOC
variable {p : Program} {l : Launch} {e : Env} {R : Room} {s : State} {m : MethodId} {args : Array Value} {below : List Frame} {meth : Method} {c : Code} {H H0 : Heap} {locs : List Loc} {cells slots : Nat} {Q : State → Prop} {cc : ByteArray} {nL : Nat} {own : String} {rt : Option FieldType} {D : va_G} {tys : List (ClassId × FieldType)} {A : Nat → Prop} {w0 : va_W} {b index : Nat} {rest : List Value} {pc : Nat} {ls : Array Slot}
theorem x_newI {cI : ClassId} {n : Int32} {N : Nat} (E : Cx p s m args meth c cc nL own rt D tys) (t0 : Nat) (ht : tys[t0]? = some (cI, .int)) (hH : HX D w0 A H0 H locs) (hn : ¬ n < 0) (hN : n.toNatClampNeg = N) (hby : N * 4 ≤ 536870912) (hc : cells + 1 ≤ R.cells) (hs : slots + N ≤ R.slots) (hdg : decode cc pc = .ok (.newarray .int, 2))
    (kk : ∀ (q : Nat) (H1 : Heap), HX D (w0 ++ [(q, .inl (cI, N, .inl (fun _ => 0)))]) A H0 H1 locs → W p l e R s m args below meth c H1 locs (cells + 1) (slots + N) Q (F0 m (pc + 2) ls (.ref q :: rest))) : W p l e R s m args below meth c H locs cells slots Q (F0 m pc ls (.int n :: rest)) := by
  obtain ⟨hx, hb, hml, hown, hg, hK, hnw, hr, hlk⟩ := E
  refine va_newa (atype := .int) (ty := .int) (a0 := (N, .inl (fun _ => 0))) hx hb (hg _ ka_int) rfl hK hH.1 hH.2.1 hH.2.2.1 hH.2.2.2 (fun _ => rfl) hn hN hby hc hs hdg (fun q cA H1 hK1 hP hD hS => ?_)
  have e1 : s.vm.findClass ("[" ++ FieldType.int.toString) = some cA := (hK1.2 tys.length (cA, .int) (by rw [List.getElem?_append_right (Nat.le_refl _), Nat.sub_self]; rfl)).2
  have e2 : s.vm.findClass ("[" ++ FieldType.int.toString) = some cI := (hK.2 t0 _ ht).2
  have e3 : cA = cI := Option.some.inj (e1.symm.trans e2)
  subst e3
  exact kk q H1 ⟨hP, hD, hS, hH.2.2.2⟩
theorem x_newS {cI : ClassId} {n : Int32} {N : Nat} (E : Cx p s m args meth c cc nL own rt D tys) (t0 : Nat) (ht : tys[t0]? = some (cI, .short)) (hH : HX D w0 A H0 H locs) (hn : ¬ n < 0) (hN : n.toNatClampNeg = N) (hby : N * 2 ≤ 536870912) (hc : cells + 1 ≤ R.cells) (hs : slots + N ≤ R.slots) (hdg : decode cc pc = .ok (.newarray .short, 2))
    (kk : ∀ (q : Nat) (H1 : Heap), HX D (w0 ++ [(q, .inl (cI, N, .inl (fun _ => 0)))]) A H0 H1 locs → W p l e R s m args below meth c H1 locs (cells + 1) (slots + N) Q (F0 m (pc + 2) ls (.ref q :: rest))) : W p l e R s m args below meth c H locs cells slots Q (F0 m pc ls (.int n :: rest)) := by
  obtain ⟨hx, hb, hml, hown, hg, hK, hnw, hr, hlk⟩ := E
  refine va_newa (atype := .short) (ty := .short) (a0 := (N, .inl (fun _ => 0))) hx hb (hg _ ka_short) rfl hK hH.1 hH.2.1 hH.2.2.1 hH.2.2.2 (fun _ => rfl) hn hN hby hc hs hdg (fun q cA H1 hK1 hP hD hS => ?_)
  have e1 : s.vm.findClass ("[" ++ FieldType.short.toString) = some cA := (hK1.2 tys.length (cA, .short) (by rw [List.getElem?_append_right (Nat.le_refl _), Nat.sub_self]; rfl)).2
  have e2 : s.vm.findClass ("[" ++ FieldType.short.toString) = some cI := (hK.2 t0 _ ht).2
  have e3 : cA = cI := Option.some.inj (e1.symm.trans e2)
  subst e3
  exact kk q H1 ⟨hP, hD, hS, hH.2.2.2⟩
theorem x_newQ {cO : ClassId} {n : Int32} {N : Nat} (E : Cx p s m args meth c cc nL own rt D tys) (t0 : Nat) (ht : tys[t0]? = some (cO, .object "RankShelf$Version")) (hcl : Cond.classLink own index "RankShelf$Version" ∈ gT) (hH : HX D w0 A H0 H locs) (hn : ¬ n < 0) (hN : n.toNatClampNeg = N) (hby : N * 4 ≤ 536870912) (hc : cells + 1 ≤ R.cells) (hs : slots + N ≤ R.slots) (hdg : decode cc pc = .ok (.anewarray index, 3))
    (kk : ∀ (q : Nat) (H1 : Heap), HX D (w0 ++ [(q, .inl (cO, N, .inr (.inr (.inr (.inr (fun _ => none))))))]) A H0 H1 locs → W p l e R s m args below meth c H1 locs (cells + 1) (slots + N) Q (F0 m (pc + 3) ls (.ref q :: rest))) : W p l e R s m args below meth c H locs cells slots Q (F0 m pc ls (.int n :: rest)) := by
  obtain ⟨hx, hb, hml, hown, hg, hK, hnw, hr, hlk⟩ := E
  refine va_newq hx hb hown (hg _ hcl) (hnw _ ka_over) hK hH.1 hH.2.1 hH.2.2.1 hH.2.2.2 hn hN hby hc hs hdg (fun q cA H1 hK1 hP hD hS => ?_)
  obtain ⟨k1, c1, -, -, -, e1⟩ := (hK1.2 tys.length (cA, .object "RankShelf$Version") (by rw [List.getElem?_append_right (Nat.le_refl _), Nat.sub_self]; rfl)).2
  obtain ⟨k2, c2, -, -, -, e2⟩ := (hK.2 t0 _ ht).2
  have e3 : cA = cO := Option.some.inj (e1.symm.trans e2)
  subst e3
  exact kk q H1 ⟨hP, hD, hS, hH.2.2.2⟩
theorem x_new {CN : String} {T : u_T} {N ci : Nat} {fs : List Value} (E : Cx p s m args meth c cc nL own rt D tys) (hin : ∀ w ∈ u_ws CN T N, w ∈ gT) (ty : Nat → FieldType) (hty : ∀ k, k < N → parseFieldDescriptor (T k).2.2.1 = some (ty k)) (hcl : Cond.classLink own index CN ∈ gT) (hinst : Cond.instantiable CN N ∈ gT) (hini : Cond.initialized CN ∈ gT) (hH : HX D w0 A H0 H locs) (hc : vwCl[ci]? = some (CN, T, N)) (hfs : ∀ j, j < N → defaultValue (ty j) = vp_V fs j) (hce : cells + 1 ≤ R.cells) (hs : slots + N ≤ R.slots) (hdg : decode cc pc = .ok (.new index, 3))
    (kk : ∀ (q : Nat) (H1 : Heap), HX D (w0 ++ [(q, .inr (ci, fs))]) A H0 H1 locs → W p l e R s m args below meth c H1 locs (cells + 1) (slots + N) Q (F0 m (pc + 3) ls (.ref q :: rest))) : W p l e R s m args below meth c H locs cells slots Q (F0 m pc ls rest) := by
  obtain ⟨hx, hb, hml, hown, hg, hK, hnw, hr, hlk⟩ := E
  exact va_new hx hb hg hin ty hty hown (hg _ hcl) (hg _ hinst) (hg _ hini) hK hH.1 hH.2.1 hH.2.2.1 hH.2.2.2 hc hfs hce hs hdg (fun q H1 hP hD hS => kk q H1 ⟨hP, hD, hS, hH.2.2.2⟩)
theorem x_putF {CN : String} {T : u_T} {N ci : Nat} {fs : List Value} {v : Value} {ty : FieldType} {w1 : va_W} (E : Cx p s m args meth c cc nL own rt D tys) (hin2 : meth.name = "<init>") (hin : ∀ w ∈ u_ws CN T N, w ∈ gT) (ty0 : Nat → FieldType) (hty : ∀ k, k < N → parseFieldDescriptor (T k).2.2.1 = some (ty0 k)) (hnm : ∀ a, a < N → ∀ b, b < N → a ≠ b → (T a).2.1 ≠ (T b).2.1) (hH : HX D w0 A H0 H locs) (q0 : Nat) (he : w0[q0]? = some (b, .inr (ci, fs))) (hc : vwCl[ci]? = some (CN, T, N)) (k : Nat) (hk : k < N) (hlink : Cond.fieldLink own index (T k).1 (T k).2.1 (T k).2.2.1 ∈ gT) (hfin : (T k).2.2.2 = true) (hdecl : (T k).1 = own) (hd : parseFieldDescriptor (T k).2.2.1 = some ty) (hn : narrow ty v = v) (hfit : fits ty v = true) (hl : k < fs.length) (hw : w0.set q0 (b, .inr (ci, fs.set k v)) = w1) (hdg : decode cc pc = .ok (.putfield index, 3))
    (kk : ∀ (H1 : Heap) (locs1 : List Loc), HX D w1 A H0 H1 locs1 → W p l e R s m args below meth c H1 locs1 cells slots Q (F0 m (pc + 3) ls rest)) : W p l e R s m args below meth c H locs cells slots Q (F0 m pc ls (v :: .ref b :: rest)) := by
  obtain ⟨hx, hb, hml, hown, hg, hK, hnw, hr, hlk⟩ := E
  exact va_putF (ty := ty) hx hb hg hin ty0 hty hnm hown hK hH.1 hH.2.1 hH.2.2.1 q0 he hc k hk (hg _ hlink) (fun _ h9 => h9) hfin hin2 hdecl hd hn hfit hl hdg (fun H1 locs1 hP hD hS => kk H1 locs1 ⟨hw ▸ hP, hw ▸ hD, hS, hH.2.2.2⟩)
theorem x_obj {g : Nat} (E : Cx p s m args meth c cc nL own rt D tys) (hl : ls.size = nL) (hlink : Cond.methodLink own index objectInit ∈ gT) (hf : 1 ≤ R.frames) (hlo : 2 * (F0 m pc ls (.ref g :: rest)).monitorRoom + (rest.map fun v => v.category).sum + 12 ≤ R.locals) (hdg : decode cc pc = .ok (.invokespecial index, 3)) (kk : W p l e R s m args below meth c H locs cells slots Q (F0 m (pc + 3) ls rest)) : W p l e R s m args below meth c H locs cells slots Q (F0 m pc ls (.ref g :: rest)) := by
  obtain ⟨hx, hb, hml, hown, hg, hK, hnw, hr, hlk⟩ := E
  exact W.objInit hx hb hown (hg _ hlink) (hg _ ko_inst) (hg _ ko_code) rfl (by rw [hml]; exact hl) rfl hdg hf hlo kk
end XALLOC
set_option maxHeartbeats 4000000 in
set_option maxRecDepth 100000 in
theorem c_X0_init {l : Launch} {D : va_G} {cI cS cO : ClassId} {wr : va_W} {q : Nat} : MetX l D (tyW cI cS cO) yX0_init cX0_init 1 none 1 3 1200 [.ref q] (wr ++ [(q, .inr (0, [.null, .null, .null, .int 0]))]) (QV D (fun u : Nat → Nat => wr ++ [(q, .inr (0, [.ref (u 0), .ref (u 1), .ref (u 2), .int 0])), (u 0, .inl (cI, 400, .inl (fun _ => 0))), (u 1, .inl (cI, 400, .inl (fun _ => 0))), (u 2, .inl (cI, 400, .inl (fun _ => 0)))]) (fun _ => True)) := by
  refine x_ent (by decide) (Nat.le_of_ble_eq_true rfl) ?_
  intro p e s m below meth c ls E hnm hH hl
  have hx := E.1
  have hb := E.2.1
  generalize va_A (wr ++ [(q, .inr (0, [.null, .null, .null, .int 0]))]) s.heap.size = A at hH ⊢
  have hl : lv_has ls 1 [(0, .ref q)] := hl
  refine lv_aload_n hx hb dX0_init_0 rfl (lv_at hl 0 rfl) ?_
  refine x_obj E hl.1 km_X0_3 (by decide) (by exact Nat.le_of_ble_eq_true rfl) dX0_init_1 ?_
  refine lv_aload_n hx hb dX0_init_4 rfl (lv_at hl 0 rfl) ?_
  refine lv_sipush (v := (400 : Int32)) hx hb dX0_init_5 (by decide) ?_
  refine x_newI (N := 400) E 0 rfl hH (by decide) (by decide) (by decide) (by simp only [rmA]; omega) (by simp only [rmA]; omega) dX0_init_8 (fun q0 H hH => ?_)
  rw [List.append_assoc] at hH
  have hH : HX D (wr ++ [(q, .inr (0, [.null, .null, .null, .int 0])), (q0, .inl (cI, 400, .inl (fun _ => 0)))]) A s.heap H _ := hH
  refine x_putF (ci := 0) (CN := RX0) (T := TX0) (N := 4) (ty := .array .int) (w1 := wr ++ [(q, .inr (0, [.ref q0, .null, .null, .int 0])), (q0, .inl (cI, 400, .inl (fun _ => 0)))]) E hnm in_X0 tyX0 tyX0_ok nmX0 hH (wr.length + 0) (app_get rfl) rfl 0 (by decide) kf_X0_9 rfl rfl (by decide +kernel) rfl rfl (Nat.le_of_ble_eq_true rfl) app_set dX0_init_10 (fun H locs hH => ?_)
  refine lv_aload_n hx hb dX0_init_13 rfl (lv_at hl 0 rfl) ?_
  refine lv_sipush (v := (400 : Int32)) hx hb dX0_init_14 (by decide) ?_
  refine x_newI (N := 400) E 0 rfl hH (by decide) (by decide) (by decide) (by simp only [rmA]; omega) (by simp only [rmA]; omega) dX0_init_17 (fun q1 H hH => ?_)
  rw [List.append_assoc] at hH
  have hH : HX D (wr ++ [(q, .inr (0, [.ref q0, .null, .null, .int 0])), (q0, .inl (cI, 400, .inl (fun _ => 0))), (q1, .inl (cI, 400, .inl (fun _ => 0)))]) A s.heap H _ := hH
  refine x_putF (ci := 0) (CN := RX0) (T := TX0) (N := 4) (ty := .array .int) (w1 := wr ++ [(q, .inr (0, [.ref q0, .ref q1, .null, .int 0])), (q0, .inl (cI, 400, .inl (fun _ => 0))), (q1, .inl (cI, 400, .inl (fun _ => 0)))]) E hnm in_X0 tyX0 tyX0_ok nmX0 hH (wr.length + 0) (app_get rfl) rfl 1 (by decide) kf_X0_15 rfl rfl (by decide +kernel) rfl rfl (Nat.le_of_ble_eq_true rfl) app_set dX0_init_19 (fun H locs hH => ?_)
  refine lv_aload_n hx hb dX0_init_22 rfl (lv_at hl 0 rfl) ?_
  refine lv_sipush (v := (400 : Int32)) hx hb dX0_init_23 (by decide) ?_
  refine x_newI (N := 400) E 0 rfl hH (by decide) (by decide) (by decide) (by simp only [rmA]; omega) (by simp only [rmA]; omega) dX0_init_26 (fun q2 H hH => ?_)
  rw [List.append_assoc] at hH
  have hH : HX D (wr ++ [(q, .inr (0, [.ref q0, .ref q1, .null, .int 0])), (q0, .inl (cI, 400, .inl (fun _ => 0))), (q1, .inl (cI, 400, .inl (fun _ => 0))), (q2, .inl (cI, 400, .inl (fun _ => 0)))]) A s.heap H _ := hH
  refine x_putF (ci := 0) (CN := RX0) (T := TX0) (N := 4) (ty := .array .int) (w1 := wr ++ [(q, .inr (0, [.ref q0, .ref q1, .ref q2, .int 0])), (q0, .inl (cI, 400, .inl (fun _ => 0))), (q1, .inl (cI, 400, .inl (fun _ => 0))), (q2, .inl (cI, 400, .inl (fun _ => 0)))]) E hnm in_X0 tyX0 tyX0_ok nmX0 hH (wr.length + 0) (app_get rfl) rfl 2 (by decide) kf_X0_18 rfl rfl (by decide +kernel) rfl rfl (Nat.le_of_ble_eq_true rfl) app_set dX0_init_28 (fun H locs hH => ?_)
  refine W.widen (k := 3) (n := 1200) (by omega) (by omega) ?_
  exact x_vret (u := fun j => if j = 0 then q0 else if j = 1 then q1 else q2) E hH trivial dX0_init_31
set_option maxHeartbeats 4000000 in
set_option maxRecDepth 100000 in
theorem c_X1_init {l : Launch} {D : va_G} {cI cS cO : ClassId} {wr : va_W} {q : Nat} : MetX l D (tyW cI cS cO) yX1_init cX1_init 1 none 1 2 1425 [.ref q] (wr ++ [(q, .inr (1, [.null, .null]))]) (QV D (fun u : Nat → Nat => wr ++ [(q, .inr (1, [.ref (u 0), .ref (u 1)])), (u 0, .inl (cI, 1024, .inl (fun _ => 0))), (u 1, .inl (cI, 401, .inl (fun _ => 0)))]) (fun _ => True)) := by
  refine x_ent (by decide) (Nat.le_of_ble_eq_true rfl) ?_
  intro p e s m below meth c ls E hnm hH hl
  have hx := E.1
  have hb := E.2.1
  generalize va_A (wr ++ [(q, .inr (1, [.null, .null]))]) s.heap.size = A at hH ⊢
  have hl : lv_has ls 1 [(0, .ref q)] := hl
  refine lv_aload_n hx hb dX1_init_0 rfl (lv_at hl 0 rfl) ?_
  refine x_obj E hl.1 km_X1_3 (by decide) (by exact Nat.le_of_ble_eq_true rfl) dX1_init_1 ?_
  refine lv_aload_n hx hb dX1_init_4 rfl (lv_at hl 0 rfl) ?_
  refine lv_sipush (v := (1024 : Int32)) hx hb dX1_init_5 (by decide) ?_
  refine x_newI (N := 1024) E 0 rfl hH (by decide) (by decide) (by decide) (by simp only [rmA]; omega) (by simp only [rmA]; omega) dX1_init_8 (fun q0 H hH => ?_)
  rw [List.append_assoc] at hH
  have hH : HX D (wr ++ [(q, .inr (1, [.null, .null])), (q0, .inl (cI, 1024, .inl (fun _ => 0)))]) A s.heap H _ := hH
  refine x_putF (ci := 1) (CN := RX1) (T := TX1) (N := 2) (ty := .array .int) (w1 := wr ++ [(q, .inr (1, [.ref q0, .null])), (q0, .inl (cI, 1024, .inl (fun _ => 0)))]) E hnm in_X1 tyX1 tyX1_ok nmX1 hH (wr.length + 0) (app_get rfl) rfl 0 (by decide) kf_X1_9 rfl rfl (by decide +kernel) rfl rfl (Nat.le_of_ble_eq_true rfl) app_set dX1_init_10 (fun H locs hH => ?_)
  refine lv_aload_n hx hb dX1_init_13 rfl (lv_at hl 0 rfl) ?_
  refine lv_sipush (v := (401 : Int32)) hx hb dX1_init_14 (by decide) ?_
  refine x_newI (N := 401) E 0 rfl hH (by decide) (by decide) (by decide) (by simp only [rmA]; omega) (by simp only [rmA]; omega) dX1_init_17 (fun q1 H hH => ?_)
  rw [List.append_assoc] at hH
  have hH : HX D (wr ++ [(q, .inr (1, [.ref q0, .null])), (q0, .inl (cI, 1024, .inl (fun _ => 0))), (q1, .inl (cI, 401, .inl (fun _ => 0)))]) A s.heap H _ := hH
  refine x_putF (ci := 1) (CN := RX1) (T := TX1) (N := 2) (ty := .array .int) (w1 := wr ++ [(q, .inr (1, [.ref q0, .ref q1])), (q0, .inl (cI, 1024, .inl (fun _ => 0))), (q1, .inl (cI, 401, .inl (fun _ => 0)))]) E hnm in_X1 tyX1 tyX1_ok nmX1 hH (wr.length + 0) (app_get rfl) rfl 1 (by decide) kf_X1_15 rfl rfl (by decide +kernel) rfl rfl (Nat.le_of_ble_eq_true rfl) app_set dX1_init_19 (fun H locs hH => ?_)
  refine W.widen (k := 2) (n := 1425) (by omega) (by omega) ?_
  exact x_vret (u := fun j => if j = 0 then q0 else q1) E hH trivial dX1_init_22
set_option maxHeartbeats 4000000 in
set_option maxRecDepth 100000 in
theorem c_X2_init_0 {l : Launch} {D : va_G} {cI cS cO : ClassId} {wr : va_W} {q ow : Nat} {x1 x3 x4 : Int32} (hn : ¬ (if x4 < (0 : Int32) then (0 : Int32) else x4) < 0) (hN : (if x4 < (0 : Int32) then (0 : Int32) else x4).toNatClampNeg = ow) (ho : ow ≤ 400) : MetX l D (tyW cI cS cO) yX2_init cX2_init 6 none 1 2 800 [.ref q, .int x1, .null, .int x3, .int x4] (wr ++ [(q, .inr (2, [.int 0, .null, .int 0, .int 0, .null, .null, .int 0, .int 0, .int 0]))]) (QV D (fun u : Nat → Nat => wr ++ [(q, .inr (2, [.int x1, .null, .int x3, .int (x3 + (if x4 < (0 : Int32) then (0 : Int32) else x4)), .ref (u 0), .ref (u 1), .int 0, .int 1, .int 0])), (u 0, .inl (cI, ow, .inl (fun _ => 0))), (u 1, .inl (cI, ow, .inl (fun _ => 0)))]) (fun _ => True)) := by
  refine x_ent (by decide) (Nat.le_of_ble_eq_true rfl) ?_
  intro p e s m below meth c ls E hnm hH hl
  have hx := E.1
  have hb := E.2.1
  generalize va_A (wr ++ [(q, .inr (2, [.int 0, .null, .int 0, .int 0, .null, .null, .int 0, .int 0, .int 0]))]) s.heap.size = A at hH ⊢
  have hl : lv_has ls 6 [(0, .ref q), (1, .int x1), (2, .null), (3, .int x3), (4, .int x4)] := hl
  refine lv_aload_n hx hb dX2_init_0 rfl (lv_at hl 0 rfl) ?_
  refine x_obj E hl.1 km_X2_1 (by decide) (by exact Nat.le_of_ble_eq_true rfl) dX2_init_1 ?_
  refine lv_iload hx hb dX2_init_4 (lv_at hl 4 rfl) ?_
  refine lv_iconst (v := 0) hx hb dX2_init_6 (by decide) ?_
  refine va_mmax hx hb (E.2.2.1.trans hl.1.symm) E.2.2.2.1 (E.2.2.2.2.1 _ km_X2_7) (E.2.2.2.2.1 _ km_max_s) (E.2.2.2.2.1 _ km_math) (E.2.2.2.2.1 _ km_max_c) (by decide) (by decide) (by decide) (by decide) dX2_init_7 ?_
  refine lv_istore (lv' := [(5, .int (if x4 < (0 : Int32) then (0 : Int32) else x4)), (0, .ref q), (1, .int x1), (2, .null), (3, .int x3), (4, .int x4)]) hx hb dX2_init_10 hl (by decide) rfl (fun ls hl => ?_)
  refine lv_aload_n hx hb dX2_init_12 rfl (lv_at hl 1 rfl) ?_
  refine lv_iload_n hx hb dX2_init_13 rfl (lv_at hl 2 rfl) ?_
  refine x_putF (ci := 2) (CN := RX2) (T := TX2) (N := 9) (ty := .int) (w1 := wr ++ [(q, .inr (2, [.int x1, .null, .int 0, .int 0, .null, .null, .int 0, .int 0, .int 0]))]) E hnm in_X2 tyX2 tyX2_ok nmX2 hH (wr.length + 0) (app_get rfl) rfl 0 (by decide) kf_X2_13 rfl rfl (by decide +kernel) rfl rfl (Nat.le_of_ble_eq_true rfl) app_set dX2_init_14 (fun H locs hH => ?_)
  refine lv_aload_n hx hb dX2_init_17 rfl (lv_at hl 1 rfl) ?_
  refine lv_aload_nN hx hb dX2_init_18 rfl (lv_at hl 3 rfl) ?_
  refine x_putF (ci := 2) (CN := RX2) (T := TX2) (N := 9) (ty := .object "RankShelf$Version") (w1 := wr ++ [(q, .inr (2, [.int x1, .null, .int 0, .int 0, .null, .null, .int 0, .int 0, .int 0]))]) E hnm in_X2 tyX2 tyX2_ok nmX2 hH (wr.length + 0) (app_get rfl) rfl 1 (by decide) kf_X2_19 rfl rfl (by decide +kernel) rfl rfl (Nat.le_of_ble_eq_true rfl) app_set dX2_init_19 (fun H locs hH => ?_)
  refine lv_aload_n hx hb dX2_init_22 rfl (lv_at hl 1 rfl) ?_
  refine lv_iload_n hx hb dX2_init_23 rfl (lv_at hl 4 rfl) ?_
  refine x_putF (ci := 2) (CN := RX2) (T := TX2) (N := 9) (ty := .int) (w1 := wr ++ [(q, .inr (2, [.int x1, .null, .int x3, .int 0, .null, .null, .int 0, .int 0, .int 0]))]) E hnm in_X2 tyX2 tyX2_ok nmX2 hH (wr.length + 0) (app_get rfl) rfl 2 (by decide) kf_X2_23 rfl rfl (by decide +kernel) rfl rfl (Nat.le_of_ble_eq_true rfl) app_set dX2_init_24 (fun H locs hH => ?_)
  refine lv_aload_n hx hb dX2_init_27 rfl (lv_at hl 1 rfl) ?_
  refine lv_iload_n hx hb dX2_init_28 rfl (lv_at hl 4 rfl) ?_
  refine lv_iload hx hb dX2_init_29 (lv_at hl 0 rfl) ?_
  refine lv_iadd hx hb dX2_init_31 ?_
  refine x_putF (ci := 2) (CN := RX2) (T := TX2) (N := 9) (ty := .int) (w1 := wr ++ [(q, .inr (2, [.int x1, .null, .int x3, .int (x3 + (if x4 < (0 : Int32) then (0 : Int32) else x4)), .null, .null, .int 0, .int 0, .int 0]))]) E hnm in_X2 tyX2 tyX2_ok nmX2 hH (wr.length + 0) (app_get rfl) rfl 3 (by decide) kf_X2_26 rfl rfl (by decide +kernel) rfl rfl (Nat.le_of_ble_eq_true rfl) app_set dX2_init_32 (fun H locs hH => ?_)
  refine lv_aload_n hx hb dX2_init_35 rfl (lv_at hl 1 rfl) ?_
  refine lv_iload hx hb dX2_init_36 (lv_at hl 0 rfl) ?_
  refine x_newI (N := ow) E 0 rfl hH hn hN (by omega) (by simp only [rmA]; omega) (by simp only [rmA]; omega) dX2_init_38 (fun q0 H hH => ?_)
  rw [List.append_assoc] at hH
  have hH : HX D (wr ++ [(q, .inr (2, [.int x1, .null, .int x3, .int (x3 + (if x4 < (0 : Int32) then (0 : Int32) else x4)), .null, .null, .int 0, .int 0, .int 0])), (q0, .inl (cI, ow, .inl (fun _ => 0)))]) A s.heap H _ := hH
  refine x_putF (ci := 2) (CN := RX2) (T := TX2) (N := 9) (ty := .array .int) (w1 := wr ++ [(q, .inr (2, [.int x1, .null, .int x3, .int (x3 + (if x4 < (0 : Int32) then (0 : Int32) else x4)), .ref q0, .null, .int 0, .int 0, .int 0])), (q0, .inl (cI, ow, .inl (fun _ => 0)))]) E hnm in_X2 tyX2 tyX2_ok nmX2 hH (wr.length + 0) (app_get rfl) rfl 4 (by decide) kf_X2_29 rfl rfl (by decide +kernel) rfl rfl (Nat.le_of_ble_eq_true rfl) app_set dX2_init_40 (fun H locs hH => ?_)
  refine lv_aload_n hx hb dX2_init_43 rfl (lv_at hl 1 rfl) ?_
  refine lv_iload hx hb dX2_init_44 (lv_at hl 0 rfl) ?_
  refine x_newI (N := ow) E 0 rfl hH hn hN (by omega) (by simp only [rmA]; omega) (by simp only [rmA]; omega) dX2_init_46 (fun q1 H hH => ?_)
  rw [List.append_assoc] at hH
  have hH : HX D (wr ++ [(q, .inr (2, [.int x1, .null, .int x3, .int (x3 + (if x4 < (0 : Int32) then (0 : Int32) else x4)), .ref q0, .null, .int 0, .int 0, .int 0])), (q0, .inl (cI, ow, .inl (fun _ => 0))), (q1, .inl (cI, ow, .inl (fun _ => 0)))]) A s.heap H _ := hH
  refine x_putF (ci := 2) (CN := RX2) (T := TX2) (N := 9) (ty := .array .int) (w1 := wr ++ [(q, .inr (2, [.int x1, .null, .int x3, .int (x3 + (if x4 < (0 : Int32) then (0 : Int32) else x4)), .ref q0, .ref q1, .int 0, .int 0, .int 0])), (q0, .inl (cI, ow, .inl (fun _ => 0))), (q1, .inl (cI, ow, .inl (fun _ => 0)))]) E hnm in_X2 tyX2 tyX2_ok nmX2 hH (wr.length + 0) (app_get rfl) rfl 5 (by decide) kf_X2_33 rfl rfl (by decide +kernel) rfl rfl (Nat.le_of_ble_eq_true rfl) app_set dX2_init_48 (fun H locs hH => ?_)
  refine lv_aload_n hx hb dX2_init_51 rfl (lv_at hl 1 rfl) ?_
  refine lv_aload_nN hx hb dX2_init_52 rfl (lv_at hl 3 rfl) ?_
  refine lv_ifnullN (tgt := 67) hx hb dX2_init_53 (by decide) ?_
  refine lv_iconst (v := 0) hx hb dX2_init_67 (by decide) ?_
  refine x_putF (ci := 2) (CN := RX2) (T := TX2) (N := 9) (ty := .boolean) (w1 := wr ++ [(q, .inr (2, [.int x1, .null, .int x3, .int (x3 + (if x4 < (0 : Int32) then (0 : Int32) else x4)), .ref q0, .ref q1, .int 0, .int 0, .int 0])), (q0, .inl (cI, ow, .inl (fun _ => 0))), (q1, .inl (cI, ow, .inl (fun _ => 0)))]) E hnm in_X2 tyX2 tyX2_ok nmX2 hH (wr.length + 0) (app_get rfl) rfl 6 (by decide) kf_X2_39 rfl rfl (by decide +kernel) rfl rfl (Nat.le_of_ble_eq_true rfl) app_set dX2_init_68 (fun H locs hH => ?_)
  refine lv_aload_n hx hb dX2_init_71 rfl (lv_at hl 1 rfl) ?_
  refine lv_aload_nN hx hb dX2_init_72 rfl (lv_at hl 3 rfl) ?_
  refine lv_ifnonnullN hx hb dX2_init_73 ?_
  refine lv_iconst (v := 1) hx hb dX2_init_76 (by decide) ?_
  refine lv_goto (tgt := 86) hx hb dX2_init_77 (by decide) ?_
  refine x_putF (ci := 2) (CN := RX2) (T := TX2) (N := 9) (ty := .int) (w1 := wr ++ [(q, .inr (2, [.int x1, .null, .int x3, .int (x3 + (if x4 < (0 : Int32) then (0 : Int32) else x4)), .ref q0, .ref q1, .int 0, .int 1, .int 0])), (q0, .inl (cI, ow, .inl (fun _ => 0))), (q1, .inl (cI, ow, .inl (fun _ => 0)))]) E hnm in_X2 tyX2 tyX2_ok nmX2 hH (wr.length + 0) (app_get rfl) rfl 7 (by decide) kf_X2_43 rfl rfl (by decide +kernel) rfl rfl (Nat.le_of_ble_eq_true rfl) app_set dX2_init_86 (fun H locs hH => ?_)
  refine W.widen (k := 2) (n := 800) (by omega) (by omega) ?_
  exact x_vret (u := fun j => if j = 0 then q0 else q1) E hH trivial dX2_init_89
set_option maxHeartbeats 4000000 in
set_option maxRecDepth 100000 in
theorem c_X2_init_p {l : Launch} {D : va_G} {cI cS cO : ClassId} {wr : va_W} {q ow : Nat} {x1 x3 x4 : Int32} {pa k : Nat} {fs : List Value} {ch an : Int32} (hp : wr[k]? = some (pa, .inr (2, fs))) (h8 : fs[8]? = some (.int ch)) (h7 : fs[7]? = some (.int an)) (hn : ¬ (if x4 < (0 : Int32) then (0 : Int32) else x4) < 0) (hN : (if x4 < (0 : Int32) then (0 : Int32) else x4).toNatClampNeg = ow) (ho : ow ≤ 400) : MetX l D (tyW cI cS cO) yX2_init cX2_init 6 none 1 2 800 [.ref q, .int x1, .ref pa, .int x3, .int x4] (wr ++ [(q, .inr (2, [.int 0, .null, .int 0, .int 0, .null, .null, .int 0, .int 0, .int 0]))]) (QV D (fun u : Nat → Nat => wr ++ [(q, .inr (2, [.int x1, .ref pa, .int x3, .int (x3 + (if x4 < (0 : Int32) then (0 : Int32) else x4)), .ref (u 0), .ref (u 1), .int (if 0 < ch then 1 else 0), .int (an + 1), .int 0])), (u 0, .inl (cI, ow, .inl (fun _ => 0))), (u 1, .inl (cI, ow, .inl (fun _ => 0)))]) (fun _ => True)) := by
  refine x_ent (by decide) (Nat.le_of_ble_eq_true rfl) ?_
  intro p e s m below meth c ls E hnm hH hl
  have hx := E.1
  have hb := E.2.1
  generalize va_A (wr ++ [(q, .inr (2, [.int 0, .null, .int 0, .int 0, .null, .null, .int 0, .int 0, .int 0]))]) s.heap.size = A at hH ⊢
  have hl : lv_has ls 6 [(0, .ref q), (1, .int x1), (2, .ref pa), (3, .int x3), (4, .int x4)] := hl
  refine lv_aload_n hx hb dX2_init_0 rfl (lv_at hl 0 rfl) ?_
  refine x_obj E hl.1 km_X2_1 (by decide) (by exact Nat.le_of_ble_eq_true rfl) dX2_init_1 ?_
  refine lv_iload hx hb dX2_init_4 (lv_at hl 4 rfl) ?_
  refine lv_iconst (v := 0) hx hb dX2_init_6 (by decide) ?_
  refine va_mmax hx hb (E.2.2.1.trans hl.1.symm) E.2.2.2.1 (E.2.2.2.2.1 _ km_X2_7) (E.2.2.2.2.1 _ km_max_s) (E.2.2.2.2.1 _ km_math) (E.2.2.2.2.1 _ km_max_c) (by decide) (by decide) (by decide) (by decide) dX2_init_7 ?_
  refine lv_istore (lv' := [(5, .int (if x4 < (0 : Int32) then (0 : Int32) else x4)), (0, .ref q), (1, .int x1), (2, .ref pa), (3, .int x3), (4, .int x4)]) hx hb dX2_init_10 hl (by decide) rfl (fun ls hl => ?_)
  refine lv_aload_n hx hb dX2_init_12 rfl (lv_at hl 1 rfl) ?_
  refine lv_iload_n hx hb dX2_init_13 rfl (lv_at hl 2 rfl) ?_
  refine x_putF (ci := 2) (CN := RX2) (T := TX2) (N := 9) (ty := .int) (w1 := wr ++ [(q, .inr (2, [.int x1, .null, .int 0, .int 0, .null, .null, .int 0, .int 0, .int 0]))]) E hnm in_X2 tyX2 tyX2_ok nmX2 hH (wr.length + 0) (app_get rfl) rfl 0 (by decide) kf_X2_13 rfl rfl (by decide +kernel) rfl rfl (Nat.le_of_ble_eq_true rfl) app_set dX2_init_14 (fun H locs hH => ?_)
  refine lv_aload_n hx hb dX2_init_17 rfl (lv_at hl 1 rfl) ?_
  refine lv_aload_n hx hb dX2_init_18 rfl (lv_at hl 3 rfl) ?_
  refine x_putF (ci := 2) (CN := RX2) (T := TX2) (N := 9) (ty := .object "RankShelf$Version") (w1 := wr ++ [(q, .inr (2, [.int x1, .ref pa, .int 0, .int 0, .null, .null, .int 0, .int 0, .int 0]))]) E hnm in_X2 tyX2 tyX2_ok nmX2 hH (wr.length + 0) (app_get rfl) rfl 1 (by decide) kf_X2_19 rfl rfl (by decide +kernel) rfl rfl (Nat.le_of_ble_eq_true rfl) app_set dX2_init_19 (fun H locs hH => ?_)
  refine lv_aload_n hx hb dX2_init_22 rfl (lv_at hl 1 rfl) ?_
  refine lv_iload_n hx hb dX2_init_23 rfl (lv_at hl 4 rfl) ?_
  refine x_putF (ci := 2) (CN := RX2) (T := TX2) (N := 9) (ty := .int) (w1 := wr ++ [(q, .inr (2, [.int x1, .ref pa, .int x3, .int 0, .null, .null, .int 0, .int 0, .int 0]))]) E hnm in_X2 tyX2 tyX2_ok nmX2 hH (wr.length + 0) (app_get rfl) rfl 2 (by decide) kf_X2_23 rfl rfl (by decide +kernel) rfl rfl (Nat.le_of_ble_eq_true rfl) app_set dX2_init_24 (fun H locs hH => ?_)
  refine lv_aload_n hx hb dX2_init_27 rfl (lv_at hl 1 rfl) ?_
  refine lv_iload_n hx hb dX2_init_28 rfl (lv_at hl 4 rfl) ?_
  refine lv_iload hx hb dX2_init_29 (lv_at hl 0 rfl) ?_
  refine lv_iadd hx hb dX2_init_31 ?_
  refine x_putF (ci := 2) (CN := RX2) (T := TX2) (N := 9) (ty := .int) (w1 := wr ++ [(q, .inr (2, [.int x1, .ref pa, .int x3, .int (x3 + (if x4 < (0 : Int32) then (0 : Int32) else x4)), .null, .null, .int 0, .int 0, .int 0]))]) E hnm in_X2 tyX2 tyX2_ok nmX2 hH (wr.length + 0) (app_get rfl) rfl 3 (by decide) kf_X2_26 rfl rfl (by decide +kernel) rfl rfl (Nat.le_of_ble_eq_true rfl) app_set dX2_init_32 (fun H locs hH => ?_)
  refine lv_aload_n hx hb dX2_init_35 rfl (lv_at hl 1 rfl) ?_
  refine lv_iload hx hb dX2_init_36 (lv_at hl 0 rfl) ?_
  refine x_newI (N := ow) E 0 rfl hH hn hN (by omega) (by simp only [rmA]; omega) (by simp only [rmA]; omega) dX2_init_38 (fun q0 H hH => ?_)
  rw [List.append_assoc] at hH
  have hH : HX D (wr ++ [(q, .inr (2, [.int x1, .ref pa, .int x3, .int (x3 + (if x4 < (0 : Int32) then (0 : Int32) else x4)), .null, .null, .int 0, .int 0, .int 0])), (q0, .inl (cI, ow, .inl (fun _ => 0)))]) A s.heap H _ := hH
  refine x_putF (ci := 2) (CN := RX2) (T := TX2) (N := 9) (ty := .array .int) (w1 := wr ++ [(q, .inr (2, [.int x1, .ref pa, .int x3, .int (x3 + (if x4 < (0 : Int32) then (0 : Int32) else x4)), .ref q0, .null, .int 0, .int 0, .int 0])), (q0, .inl (cI, ow, .inl (fun _ => 0)))]) E hnm in_X2 tyX2 tyX2_ok nmX2 hH (wr.length + 0) (app_get rfl) rfl 4 (by decide) kf_X2_29 rfl rfl (by decide +kernel) rfl rfl (Nat.le_of_ble_eq_true rfl) app_set dX2_init_40 (fun H locs hH => ?_)
  refine lv_aload_n hx hb dX2_init_43 rfl (lv_at hl 1 rfl) ?_
  refine lv_iload hx hb dX2_init_44 (lv_at hl 0 rfl) ?_
  refine x_newI (N := ow) E 0 rfl hH hn hN (by omega) (by simp only [rmA]; omega) (by simp only [rmA]; omega) dX2_init_46 (fun q1 H hH => ?_)
  rw [List.append_assoc] at hH
  have hH : HX D (wr ++ [(q, .inr (2, [.int x1, .ref pa, .int x3, .int (x3 + (if x4 < (0 : Int32) then (0 : Int32) else x4)), .ref q0, .null, .int 0, .int 0, .int 0])), (q0, .inl (cI, ow, .inl (fun _ => 0))), (q1, .inl (cI, ow, .inl (fun _ => 0)))]) A s.heap H _ := hH
  refine x_putF (ci := 2) (CN := RX2) (T := TX2) (N := 9) (ty := .array .int) (w1 := wr ++ [(q, .inr (2, [.int x1, .ref pa, .int x3, .int (x3 + (if x4 < (0 : Int32) then (0 : Int32) else x4)), .ref q0, .ref q1, .int 0, .int 0, .int 0])), (q0, .inl (cI, ow, .inl (fun _ => 0))), (q1, .inl (cI, ow, .inl (fun _ => 0)))]) E hnm in_X2 tyX2 tyX2_ok nmX2 hH (wr.length + 0) (app_get rfl) rfl 5 (by decide) kf_X2_33 rfl rfl (by decide +kernel) rfl rfl (Nat.le_of_ble_eq_true rfl) app_set dX2_init_48 (fun H locs hH => ?_)
  refine lv_aload_n hx hb dX2_init_51 rfl (lv_at hl 1 rfl) ?_
  refine lv_aload_n hx hb dX2_init_52 rfl (lv_at hl 3 rfl) ?_
  refine lv_ifnull hx hb dX2_init_53 ?_
  refine lv_aload_n hx hb dX2_init_56 rfl (lv_at hl 3 rfl) ?_
  refine x_get (ci := 2) (CN := RX2) (T := TX2) (N := 9) E in_X2 hH k (app_l hp) rfl 8 (by decide) kf_X2_36 h8 dX2_init_57 ?_
  refine lv_if_le (tgt := 67) hx hb dX2_init_60 (by decide) (fun hc => ?_) (fun hc => ?_)
  · refine lv_iconst (v := 0) hx hb dX2_init_67 (by decide) ?_
    refine x_putF (ci := 2) (CN := RX2) (T := TX2) (N := 9) (ty := .boolean) (w1 := wr ++ [(q, .inr (2, [.int x1, .ref pa, .int x3, .int (x3 + (if x4 < (0 : Int32) then (0 : Int32) else x4)), .ref q0, .ref q1, .int 0, .int 0, .int 0])), (q0, .inl (cI, ow, .inl (fun _ => 0))), (q1, .inl (cI, ow, .inl (fun _ => 0)))]) E hnm in_X2 tyX2 tyX2_ok nmX2 hH (wr.length + 0) (app_get rfl) rfl 6 (by decide) kf_X2_39 rfl rfl (by decide +kernel) rfl rfl (Nat.le_of_ble_eq_true rfl) app_set dX2_init_68 (fun H locs hH => ?_)
    refine lv_aload_n hx hb dX2_init_71 rfl (lv_at hl 1 rfl) ?_
    refine lv_aload_n hx hb dX2_init_72 rfl (lv_at hl 3 rfl) ?_
    refine lv_ifnonnull (tgt := 80) hx hb dX2_init_73 (by decide) ?_
    refine lv_aload_n hx hb dX2_init_80 rfl (lv_at hl 3 rfl) ?_
    refine x_get (ci := 2) (CN := RX2) (T := TX2) (N := 9) E in_X2 hH k (app_l hp) rfl 7 (by decide) kf_X2_43 h7 dX2_init_81 ?_
    refine lv_iconst (v := 1) hx hb dX2_init_84 (by decide) ?_
    refine lv_iadd hx hb dX2_init_85 ?_
    refine x_putF (ci := 2) (CN := RX2) (T := TX2) (N := 9) (ty := .int) (w1 := wr ++ [(q, .inr (2, [.int x1, .ref pa, .int x3, .int (x3 + (if x4 < (0 : Int32) then (0 : Int32) else x4)), .ref q0, .ref q1, .int 0, .int (an + 1), .int 0])), (q0, .inl (cI, ow, .inl (fun _ => 0))), (q1, .inl (cI, ow, .inl (fun _ => 0)))]) E hnm in_X2 tyX2 tyX2_ok nmX2 hH (wr.length + 0) (app_get rfl) rfl 7 (by decide) kf_X2_43 rfl rfl (by decide +kernel) rfl rfl (Nat.le_of_ble_eq_true rfl) app_set dX2_init_86 (fun H locs hH => ?_)
    refine W.widen (k := 2) (n := 800) (by omega) (by omega) ?_
    have e9 : (if 0 < ch then (1 : Int32) else 0) = 0 := if_neg (fun h9 => absurd hc (Int32.not_le.mpr h9))
    exact x_vret (u := fun j => if j = 0 then q0 else q1) E (e9.symm ▸ hH) trivial dX2_init_89
  · refine lv_iconst (v := 1) hx hb dX2_init_63 (by decide) ?_
    refine lv_goto (tgt := 68) hx hb dX2_init_64 (by decide) ?_
    refine x_putF (ci := 2) (CN := RX2) (T := TX2) (N := 9) (ty := .boolean) (w1 := wr ++ [(q, .inr (2, [.int x1, .ref pa, .int x3, .int (x3 + (if x4 < (0 : Int32) then (0 : Int32) else x4)), .ref q0, .ref q1, .int 1, .int 0, .int 0])), (q0, .inl (cI, ow, .inl (fun _ => 0))), (q1, .inl (cI, ow, .inl (fun _ => 0)))]) E hnm in_X2 tyX2 tyX2_ok nmX2 hH (wr.length + 0) (app_get rfl) rfl 6 (by decide) kf_X2_39 rfl rfl (by decide +kernel) rfl rfl (Nat.le_of_ble_eq_true rfl) app_set dX2_init_68 (fun H locs hH => ?_)
    refine lv_aload_n hx hb dX2_init_71 rfl (lv_at hl 1 rfl) ?_
    refine lv_aload_n hx hb dX2_init_72 rfl (lv_at hl 3 rfl) ?_
    refine lv_ifnonnull (tgt := 80) hx hb dX2_init_73 (by decide) ?_
    refine lv_aload_n hx hb dX2_init_80 rfl (lv_at hl 3 rfl) ?_
    refine x_get (ci := 2) (CN := RX2) (T := TX2) (N := 9) E in_X2 hH k (app_l hp) rfl 7 (by decide) kf_X2_43 h7 dX2_init_81 ?_
    refine lv_iconst (v := 1) hx hb dX2_init_84 (by decide) ?_
    refine lv_iadd hx hb dX2_init_85 ?_
    refine x_putF (ci := 2) (CN := RX2) (T := TX2) (N := 9) (ty := .int) (w1 := wr ++ [(q, .inr (2, [.int x1, .ref pa, .int x3, .int (x3 + (if x4 < (0 : Int32) then (0 : Int32) else x4)), .ref q0, .ref q1, .int 1, .int (an + 1), .int 0])), (q0, .inl (cI, ow, .inl (fun _ => 0))), (q1, .inl (cI, ow, .inl (fun _ => 0)))]) E hnm in_X2 tyX2 tyX2_ok nmX2 hH (wr.length + 0) (app_get rfl) rfl 7 (by decide) kf_X2_43 rfl rfl (by decide +kernel) rfl rfl (Nat.le_of_ble_eq_true rfl) app_set dX2_init_86 (fun H locs hH => ?_)
    refine W.widen (k := 2) (n := 800) (by omega) (by omega) ?_
    have e9 : (if 0 < ch then (1 : Int32) else 0) = 1 := if_pos (Int32.not_le.mp hc)
    exact x_vret (u := fun j => if j = 0 then q0 else q1) E (e9.symm ▸ hH) trivial dX2_init_89
