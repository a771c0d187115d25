section WALKS_D2
variable {p : Program} {l : Launch} {e : Env} {s : State} {m : MethodId} {args : Array Value} {below : List Frame} {meth : Method} {c : Code} {D : va_G} {cI cS cO : ClassId} {a ad : Nat → Nat} {A : Nat → Prop}
set_option maxHeartbeats 4000000 in
set_option maxRecDepth 100000 in
theorem c_X3_half {l : Launch} {D : va_G} {cI cS cO : ClassId} {a ad : Nat → Nat} {C : CS} {x1 : Int32} {x2 : Int32} {x3 : Int32} {post : Int32 → CS → Prop} (h : w_X3_half post C x1 x2 x3) : MetX l D (tyW cI cS cO) yX3_half cX3_half 5 (some .int) 5 0 0 [.ref (a 0), .int x1, .int x2, .int x3] (wC cI cO a ad C) (QI D (wC cI cO a ad) post) := by
  refine x_ent (by decide) (Nat.le_of_ble_eq_true rfl) ?_
  intro p e s m below meth c ls E _ hH hl
  have hx := E.1
  have hb := E.2.1
  generalize va_A (wC cI cO a ad C) s.heap.size = A at hH ⊢
  have hl : lv_has ls 5 [(0, .ref (a 0)), (1, .int x1), (2, .int x2), (3, .int x3)] := hl
  unfold w_X3_half at h
  refine lv_aload_n hx hb dX3_half_0 rfl (lv_at hl 0 rfl) ?_
  refine lv_iload_n hx hb dX3_half_1 rfl (lv_at hl 1 rfl) ?_
  refine lv_iload_n hx hb dX3_half_2 rfl (lv_at hl 2 rfl) ?_
  refine lv_iload_n hx hb dX3_half_3 rfl (lv_at hl 3 rfl) ?_
  refine x_ci (x_runV (As := [.int x1, .int x2, .int x3]) (rest := []) E (c_X3_countSpan h) yk_X3_countSpan yi_X3_countSpan km_X3_162 ⟨Nat.le_of_ble_eq_true rfl, Nat.le_of_ble_eq_true rfl⟩ ⟨Nat.le_of_ble_eq_true rfl, Nat.le_of_ble_eq_true rfl⟩ hH (va_recv E.2.2.2.2.2.1 hH.1 (ci := 3) (q0 := 0) rfl wC_g0) hl.1 rfl rfl (lv_room (Nat.le_of_ble_eq_true rfl)) dX3_half_4) hH (fun r2 C1 H locs h hH => ?_)
  refine lv_istore (lv' := [(4, .int r2), (0, .ref (a 0)), (1, .int x1), (2, .int x2), (3, .int x3)]) hx hb dX3_half_7 hl (by decide) rfl (fun ls hl => ?_)
  refine lv_iload hx hb dX3_half_9 (lv_at hl 0 rfl) ?_
  refine lv_if_eq (tgt := 23) hx hb dX3_half_11 (by decide) (fun hc => ?_) (fun hc => ?_)
  · have h := h.1 hc
    refine lv_aload_n hx hb dX3_half_23 rfl (lv_at hl 1 rfl) ?_
    refine lv_aload_n hx hb dX3_half_24 rfl (lv_at hl 1 rfl) ?_
    refine x_get (ci := 3) (CN := RX3) (T := TX3) (N := 11) E in_X3 hH 0 wC_g0 rfl 7 (by decide) kf_X3_35 rfl dX3_half_25 ?_
    refine lv_iload_n hx hb dX3_half_28 rfl (lv_at hl 4 rfl) ?_
    refine lv_iload_n hx hb dX3_half_29 rfl (lv_at hl 3 rfl) ?_
    refine lv_isub hx hb dX3_half_30 ?_
    refine lv_iconst (v := (2 : Int32)) hx hb dX3_half_31 (by decide) ?_
    refine lv_idiv hx hb dX3_half_32 (by decide) ?_
    refine x_ci (x_runVN (As := [.int ((x3 - x2) / (2 : Int32))]) (rest := [.ref (a 0)]) E (c_X1_valueOfMoreThan h) yk_X1_valueOfMoreThan yi_X1_valueOfMoreThan kmn_X3_165 ⟨Nat.le_of_ble_eq_true rfl, Nat.le_of_ble_eq_true rfl⟩ ⟨Nat.le_of_ble_eq_true rfl, Nat.le_of_ble_eq_true rfl⟩ hH (va_recv E.2.2.2.2.2.1 hH.1 (ci := 1) (q0 := 12) rfl wC_g12) hl.1 rfl rfl (lv_room (Nat.le_of_ble_eq_true rfl)) dX3_half_33) hH (fun r4 C3 H locs h hH => ?_)
    refine x_ci (x_runV (As := [.int r4]) (rest := []) E (c_X3_foundOrNone h) yk_X3_foundOrNone yi_X3_foundOrNone km_X3_156 ⟨Nat.le_of_ble_eq_true rfl, Nat.le_of_ble_eq_true rfl⟩ ⟨Nat.le_of_ble_eq_true rfl, Nat.le_of_ble_eq_true rfl⟩ hH (va_recv E.2.2.2.2.2.1 hH.1 (ci := 3) (q0 := 0) rfl wC_g0) hl.1 rfl rfl (lv_room (Nat.le_of_ble_eq_true rfl)) dX3_half_36) hH (fun r6 C5 H locs h hH => ?_)
    exact x_iret E hH h dX3_half_39
  · have h := h.2 hc
    refine lv_aload_n hx hb dX3_half_14 rfl (lv_at hl 1 rfl) ?_
    refine lv_iload hx hb dX3_half_15 (lv_at hl 0 rfl) ?_
    refine x_ci (x_runV (As := [.int r2]) (rest := []) E (c_X3_told h) yk_X3_told yi_X3_told km_X3_56 ⟨Nat.le_of_ble_eq_true rfl, Nat.le_of_ble_eq_true rfl⟩ ⟨Nat.le_of_ble_eq_true rfl, Nat.le_of_ble_eq_true rfl⟩ hH (va_recv E.2.2.2.2.2.1 hH.1 (ci := 3) (q0 := 0) rfl wC_g0) hl.1 rfl rfl (lv_room (Nat.le_of_ble_eq_true rfl)) dX3_half_17) hH (fun r8 C7 H locs h hH => ?_)
    refine lv_goto (tgt := 39) hx hb dX3_half_20 (by decide) ?_
    exact x_iret E hH h dX3_half_39
set_option maxHeartbeats 4000000 in
set_option maxRecDepth 100000 in
theorem c_X3_often {l : Launch} {D : va_G} {cI cS cO : ClassId} {a ad : Nat → Nat} {C : CS} {x1 : Int32} {x2 : Int32} {x3 : Int32} {x4 : Int32} {post : Int32 → CS → Prop} (h : w_X3_often post C x1 x2 x3 x4) : MetX l D (tyW cI cS cO) yX3_often cX3_often 6 (some .int) 5 0 0 [.ref (a 0), .int x1, .int x2, .int x3, .int x4] (wC cI cO a ad C) (QI D (wC cI cO a ad) post) := by
  refine x_ent (by decide) (Nat.le_of_ble_eq_true rfl) ?_
  intro p e s m below meth c ls E _ hH hl
  have hx := E.1
  have hb := E.2.1
  generalize va_A (wC cI cO a ad C) s.heap.size = A at hH ⊢
  have hl : lv_has ls 6 [(0, .ref (a 0)), (1, .int x1), (2, .int x2), (3, .int x3), (4, .int x4)] := hl
  unfold w_X3_often at h
  refine lv_aload_n hx hb dX3_often_0 rfl (lv_at hl 0 rfl) ?_
  refine lv_iload_n hx hb dX3_often_1 rfl (lv_at hl 1 rfl) ?_
  refine lv_iload_n hx hb dX3_often_2 rfl (lv_at hl 2 rfl) ?_
  refine lv_iload_n hx hb dX3_often_3 rfl (lv_at hl 3 rfl) ?_
  refine x_ci (x_runV (As := [.int x1, .int x2, .int x3]) (rest := []) E (c_X3_countSpan h) yk_X3_countSpan yi_X3_countSpan km_X3_162 ⟨Nat.le_of_ble_eq_true rfl, Nat.le_of_ble_eq_true rfl⟩ ⟨Nat.le_of_ble_eq_true rfl, Nat.le_of_ble_eq_true rfl⟩ hH (va_recv E.2.2.2.2.2.1 hH.1 (ci := 3) (q0 := 0) rfl wC_g0) hl.1 rfl rfl (lv_room (Nat.le_of_ble_eq_true rfl)) dX3_often_4) hH (fun r2 C1 H locs h hH => ?_)
  refine lv_istore (lv' := [(5, .int r2), (0, .ref (a 0)), (1, .int x1), (2, .int x2), (3, .int x3), (4, .int x4)]) hx hb dX3_often_7 hl (by decide) rfl (fun ls hl => ?_)
  refine lv_iload hx hb dX3_often_9 (lv_at hl 0 rfl) ?_
  refine lv_if_eq (tgt := 23) hx hb dX3_often_11 (by decide) (fun hc => ?_) (fun hc => ?_)
  · have h := h.1 hc
    refine lv_aload_n hx hb dX3_often_23 rfl (lv_at hl 1 rfl) ?_
    refine lv_aload_n hx hb dX3_often_24 rfl (lv_at hl 1 rfl) ?_
    refine x_get (ci := 3) (CN := RX3) (T := TX3) (N := 11) E in_X3 hH 0 wC_g0 rfl 7 (by decide) kf_X3_35 rfl dX3_often_25 ?_
    refine lv_iload hx hb dX3_often_28 (lv_at hl 5 rfl) ?_
    refine x_ci (x_runVN (As := [.int x4]) (rest := [.ref (a 0)]) E (c_X1_oftenest h) yk_X1_oftenest yi_X1_oftenest kmn_X3_168 ⟨Nat.le_of_ble_eq_true rfl, Nat.le_of_ble_eq_true rfl⟩ ⟨Nat.le_of_ble_eq_true rfl, Nat.le_of_ble_eq_true rfl⟩ hH (va_recv E.2.2.2.2.2.1 hH.1 (ci := 1) (q0 := 12) rfl wC_g12) hl.1 rfl rfl (lv_room (Nat.le_of_ble_eq_true rfl)) dX3_often_30) hH (fun r4 C3 H locs h hH => ?_)
    refine x_ci (x_runV (As := [.int r4]) (rest := []) E (c_X3_foundOrNone h) yk_X3_foundOrNone yi_X3_foundOrNone km_X3_156 ⟨Nat.le_of_ble_eq_true rfl, Nat.le_of_ble_eq_true rfl⟩ ⟨Nat.le_of_ble_eq_true rfl, Nat.le_of_ble_eq_true rfl⟩ hH (va_recv E.2.2.2.2.2.1 hH.1 (ci := 3) (q0 := 0) rfl wC_g0) hl.1 rfl rfl (lv_room (Nat.le_of_ble_eq_true rfl)) dX3_often_33) hH (fun r6 C5 H locs h hH => ?_)
    exact x_iret E hH h dX3_often_36
  · have h := h.2 hc
    refine lv_aload_n hx hb dX3_often_14 rfl (lv_at hl 1 rfl) ?_
    refine lv_iload hx hb dX3_often_15 (lv_at hl 0 rfl) ?_
    refine x_ci (x_runV (As := [.int r2]) (rest := []) E (c_X3_told h) yk_X3_told yi_X3_told km_X3_56 ⟨Nat.le_of_ble_eq_true rfl, Nat.le_of_ble_eq_true rfl⟩ ⟨Nat.le_of_ble_eq_true rfl, Nat.le_of_ble_eq_true rfl⟩ hH (va_recv E.2.2.2.2.2.1 hH.1 (ci := 3) (q0 := 0) rfl wC_g0) hl.1 rfl rfl (lv_room (Nat.le_of_ble_eq_true rfl)) dX3_often_17) hH (fun r8 C7 H locs h hH => ?_)
    refine lv_goto (tgt := 36) hx hb dX3_often_20 (by decide) ?_
    exact x_iret E hH h dX3_often_36
set_option maxHeartbeats 4000000 in
set_option maxRecDepth 100000 in
theorem c_X3_distinct {l : Launch} {D : va_G} {cI cS cO : ClassId} {a ad : Nat → Nat} {C : CS} {x1 : Int32} {x2 : Int32} {x3 : Int32} {post : Int32 → CS → Prop} (h : w_X3_distinct post C x1 x2 x3) : MetX l D (tyW cI cS cO) yX3_distinct cX3_distinct 5 (some .int) 5 0 0 [.ref (a 0), .int x1, .int x2, .int x3] (wC cI cO a ad C) (QI D (wC cI cO a ad) post) := by
  refine x_ent (by decide) (Nat.le_of_ble_eq_true rfl) ?_
  intro p e s m below meth c ls E _ hH hl
  have hx := E.1
  have hb := E.2.1
  generalize va_A (wC cI cO a ad C) s.heap.size = A at hH ⊢
  have hl : lv_has ls 5 [(0, .ref (a 0)), (1, .int x1), (2, .int x2), (3, .int x3)] := hl
  unfold w_X3_distinct at h
  refine lv_aload_n hx hb dX3_distinct_0 rfl (lv_at hl 0 rfl) ?_
  refine lv_iload_n hx hb dX3_distinct_1 rfl (lv_at hl 1 rfl) ?_
  refine lv_iload_n hx hb dX3_distinct_2 rfl (lv_at hl 2 rfl) ?_
  refine lv_iload_n hx hb dX3_distinct_3 rfl (lv_at hl 3 rfl) ?_
  refine x_ci (x_runV (As := [.int x1, .int x2, .int x3]) (rest := []) E (c_X3_countSpan h) yk_X3_countSpan yi_X3_countSpan km_X3_162 ⟨Nat.le_of_ble_eq_true rfl, Nat.le_of_ble_eq_true rfl⟩ ⟨Nat.le_of_ble_eq_true rfl, Nat.le_of_ble_eq_true rfl⟩ hH (va_recv E.2.2.2.2.2.1 hH.1 (ci := 3) (q0 := 0) rfl wC_g0) hl.1 rfl rfl (lv_room (Nat.le_of_ble_eq_true rfl)) dX3_distinct_4) hH (fun r2 C1 H locs h hH => ?_)
  refine lv_istore (lv' := [(4, .int r2), (0, .ref (a 0)), (1, .int x1), (2, .int x2), (3, .int x3)]) hx hb dX3_distinct_7 hl (by decide) rfl (fun ls hl => ?_)
  refine lv_iload hx hb dX3_distinct_9 (lv_at hl 0 rfl) ?_
  refine lv_if_eq (tgt := 23) hx hb dX3_distinct_11 (by decide) (fun hc => ?_) (fun hc => ?_)
  · have h := h.1 hc
    refine lv_aload_n hx hb dX3_distinct_23 rfl (lv_at hl 1 rfl) ?_
    refine x_get (ci := 3) (CN := RX3) (T := TX3) (N := 11) E in_X3 hH 0 wC_g0 rfl 7 (by decide) kf_X3_35 rfl dX3_distinct_24 ?_
    refine x_ci (x_runVN (As := []) (rest := []) E (c_X1_countDifferent h) yk_X1_countDifferent yi_X1_countDifferent kmn_X3_171 ⟨Nat.le_of_ble_eq_true rfl, Nat.le_of_ble_eq_true rfl⟩ ⟨Nat.le_of_ble_eq_true rfl, Nat.le_of_ble_eq_true rfl⟩ hH (va_recv E.2.2.2.2.2.1 hH.1 (ci := 1) (q0 := 12) rfl wC_g12) hl.1 rfl rfl (lv_room (Nat.le_of_ble_eq_true rfl)) dX3_distinct_27) hH (fun r4 C3 H locs h hH => ?_)
    exact x_iret E hH h dX3_distinct_30
  · have h := h.2 hc
    refine lv_aload_n hx hb dX3_distinct_14 rfl (lv_at hl 1 rfl) ?_
    refine lv_iload hx hb dX3_distinct_15 (lv_at hl 0 rfl) ?_
    refine x_ci (x_runV (As := [.int r2]) (rest := []) E (c_X3_told h) yk_X3_told yi_X3_told km_X3_56 ⟨Nat.le_of_ble_eq_true rfl, Nat.le_of_ble_eq_true rfl⟩ ⟨Nat.le_of_ble_eq_true rfl, Nat.le_of_ble_eq_true rfl⟩ hH (va_recv E.2.2.2.2.2.1 hH.1 (ci := 3) (q0 := 0) rfl wC_g0) hl.1 rfl rfl (lv_room (Nat.le_of_ble_eq_true rfl)) dX3_distinct_17) hH (fun r6 C5 H locs h hH => ?_)
    refine lv_goto (tgt := 30) hx hb dX3_distinct_20 (by decide) ?_
    exact x_iret E hH h dX3_distinct_30
set_option maxHeartbeats 4000000 in
set_option maxRecDepth 100000 in
theorem c_X3_sum {l : Launch} {D : va_G} {cI cS cO : ClassId} {a ad : Nat → Nat} {C : CS} {x1 : Int32} {x2 : Int32} {x3 : Int32} {x4 : Int32} {post : Int64 → CS → Prop} (h : w_X3_sum post C x1 x2 x3 x4) : MetX l D (tyW cI cS cO) yX3_sum cX3_sum 6 (some .long) 4 0 0 [.ref (a 0), .int x1, .int x2, .int x3, .int x4] (wC cI cO a ad C) (QL D (wC cI cO a ad) post) := by
  refine x_ent (by decide) (Nat.le_of_ble_eq_true rfl) ?_
  intro p e s m below meth c ls E _ hH hl
  have hx := E.1
  have hb := E.2.1
  generalize va_A (wC cI cO a ad C) s.heap.size = A at hH ⊢
  have hl : lv_has ls 6 [(0, .ref (a 0)), (1, .int x1), (2, .int x2), (3, .int x3), (4, .int x4)] := hl
  unfold w_X3_sum at h
  refine lv_aload_n hx hb dX3_sum_0 rfl (lv_at hl 0 rfl) ?_
  refine lv_iload_n hx hb dX3_sum_1 rfl (lv_at hl 1 rfl) ?_
  refine lv_iload_n hx hb dX3_sum_2 rfl (lv_at hl 2 rfl) ?_
  refine lv_iload_n hx hb dX3_sum_3 rfl (lv_at hl 3 rfl) ?_
  refine x_ci (x_runV (As := [.int x1, .int x2, .int x3]) (rest := []) E (c_X3_layOutSpan h) yk_X3_layOutSpan yi_X3_layOutSpan km_X3_140 ⟨Nat.le_of_ble_eq_true rfl, Nat.le_of_ble_eq_true rfl⟩ ⟨Nat.le_of_ble_eq_true rfl, Nat.le_of_ble_eq_true rfl⟩ hH (va_recv E.2.2.2.2.2.1 hH.1 (ci := 3) (q0 := 0) rfl wC_g0) hl.1 rfl rfl (lv_room (Nat.le_of_ble_eq_true rfl)) dX3_sum_4) hH (fun r2 C1 H locs h hH => ?_)
  refine lv_istore (lv' := [(5, .int r2), (0, .ref (a 0)), (1, .int x1), (2, .int x2), (3, .int x3), (4, .int x4)]) hx hb dX3_sum_7 hl (by decide) rfl (fun ls hl => ?_)
  refine lv_iload hx hb dX3_sum_9 (lv_at hl 0 rfl) ?_
  refine lv_if_eq (tgt := 23) hx hb dX3_sum_11 (by decide) (fun hc => ?_) (fun hc => ?_)
  · have h := h.1 hc
    refine lv_aload_n hx hb dX3_sum_23 rfl (lv_at hl 1 rfl) ?_
    refine x_get (ci := 3) (CN := RX3) (T := TX3) (N := 11) E in_X3 hH 0 wC_g0 rfl 5 (by decide) kf_X3_25 rfl dX3_sum_24 ?_
    refine lv_iload_n hx hb dX3_sum_27 rfl (lv_at hl 3 rfl) ?_
    refine lv_iload_n hx hb dX3_sum_28 rfl (lv_at hl 4 rfl) ?_
    refine lv_iload hx hb dX3_sum_29 (lv_at hl 5 rfl) ?_
    refine x_cl (x_runVN (As := [.int x2, .int x3, .int x4]) (rest := []) E (c_X0_weighBelow h) yk_X0_weighBelow yi_X0_weighBelow kmn_X3_175 ⟨Nat.le_of_ble_eq_true rfl, Nat.le_of_ble_eq_true rfl⟩ ⟨Nat.le_of_ble_eq_true rfl, Nat.le_of_ble_eq_true rfl⟩ hH (va_recv E.2.2.2.2.2.1 hH.1 (ci := 0) (q0 := 4) rfl wC_g4) hl.1 rfl rfl (lv_room (Nat.le_of_ble_eq_true rfl)) dX3_sum_31) hH (fun r4 C3 H locs h hH => ?_)
    exact x_lret E hH h dX3_sum_34
  · have h := h.2 hc
    refine lv_aload_n hx hb dX3_sum_14 rfl (lv_at hl 1 rfl) ?_
    refine lv_iload hx hb dX3_sum_15 (lv_at hl 0 rfl) ?_
    refine x_ci (x_runV (As := [.int r2]) (rest := []) E (c_X3_told h) yk_X3_told yi_X3_told km_X3_56 ⟨Nat.le_of_ble_eq_true rfl, Nat.le_of_ble_eq_true rfl⟩ ⟨Nat.le_of_ble_eq_true rfl, Nat.le_of_ble_eq_true rfl⟩ hH (va_recv E.2.2.2.2.2.1 hH.1 (ci := 3) (q0 := 0) rfl wC_g0) hl.1 rfl rfl (lv_room (Nat.le_of_ble_eq_true rfl)) dX3_sum_17) hH (fun r6 C5 H locs h hH => ?_)
    refine lv_pop hx hb dX3_sum_20 rfl ?_
    refine lv_lconst (v := (0 : Int64)) hx hb dX3_sum_21 (by decide) ?_
    exact x_lret E hH h dX3_sum_22
set_option maxHeartbeats 4000000 in
set_option maxRecDepth 100000 in
theorem k_X3_differ_66 {post : Int32 → CS → Prop} (E : Cx p s m args meth c cX3_differ 7 RX3 (some .int) D (tyW cI cS cO))  {C : CS} {x1 : Int32} {x2 : Int32} {x3 : Int32} {x4 : Int32} {x5 : Int32} {x6 : Int32} {H : Heap} {locs : List Loc} {ls : Array Slot} (hH : HX D (wC cI cO a ad C) A s.heap H locs) (hl : lv_has ls 7 [(0, .ref (a 0)), (1, .int x1), (2, .int x2), (3, .int x3), (4, .int x4), (5, .int x5), (6, .int x6)]) (h : w_X3_differ_66 post C x1 x2 x3 x4 x5 x6) : W p l e (rmA 3 0 0) s m args below meth c H locs 0 0 (MQ below ((QI D (wC cI cO a ad) post) A) args s 0 0 A) (F0 m 66 ls []) := by
  have hx := E.1
  have hb := E.2.1
  unfold w_X3_differ_66 at h
  refine lv_iload hx hb dX3_differ_66 (lv_at hl 6 rfl) ?_
  refine lv_if_eq (tgt := 78) hx hb dX3_differ_68 (by decide) (fun hc => ?_) (fun hc => ?_)
  · have h := h.1 hc
    refine lv_aload_n hx hb dX3_differ_78 rfl (lv_at hl 0 rfl) ?_
    refine x_get (ci := 3) (CN := RX3) (T := TX3) (N := 11) E in_X3 hH 0 wC_g0 rfl 5 (by decide) kf_X3_25 rfl dX3_differ_79 ?_
    refine lv_aload_n hx hb dX3_differ_82 rfl (lv_at hl 0 rfl) ?_
    refine x_get (ci := 3) (CN := RX3) (T := TX3) (N := 11) E in_X3 hH 0 wC_g0 rfl 3 (by decide) kf_X3_15 rfl dX3_differ_83 ?_
    refine lv_iload_n hx hb dX3_differ_86 rfl (lv_at hl 1 rfl) ?_
    obtain ⟨hi12, h⟩ := h
    refine x_aald E hH 2 2 wC_g2 rfl hi12 dX3_differ_87 ?_
    refine q_top (ad := ad) (x := co C 2 (Int32.toNatClampNeg x1)) (fun w11 ew11 => ?_)
    have h := h w11 ew11
    obtain ⟨v13, rfl, hv14, h⟩ := h
    refine x_cv (x_runVN (As := [.ref (ad (3 * v13))]) (rest := []) E (c_X0_layOut4 h) yk_X0_layOut yi_X0_layOut kmn_X3_88 ⟨Nat.le_of_ble_eq_true rfl, Nat.le_of_ble_eq_true rfl⟩ ⟨Nat.le_of_ble_eq_true rfl, Nat.le_of_ble_eq_true rfl⟩ hH (va_recv E.2.2.2.2.2.1 hH.1 (ci := 0) (q0 := 4) rfl wC_g4) hl.1 rfl rfl (lv_room (Nat.le_of_ble_eq_true rfl)) dX3_differ_88) hH (fun C15 H locs h hH => ?_)
    refine lv_aload_n hx hb dX3_differ_91 rfl (lv_at hl 0 rfl) ?_
    refine x_get (ci := 3) (CN := RX3) (T := TX3) (N := 11) E in_X3 hH 0 wC_g0 rfl 6 (by decide) kf_X3_29 rfl dX3_differ_92 ?_
    refine lv_aload_n hx hb dX3_differ_95 rfl (lv_at hl 0 rfl) ?_
    refine x_get (ci := 3) (CN := RX3) (T := TX3) (N := 11) E in_X3 hH 0 wC_g0 rfl 3 (by decide) kf_X3_15 rfl dX3_differ_96 ?_
    refine lv_iload hx hb dX3_differ_99 (lv_at hl 4 rfl) ?_
    obtain ⟨hi18, h⟩ := h
    refine x_aald E hH 2 2 wC_g2 rfl hi18 dX3_differ_101 ?_
    refine q_top (ad := ad) (x := co C15 2 (Int32.toNatClampNeg x4)) (fun w17 ew17 => ?_)
    have h := h w17 ew17
    obtain ⟨v19, rfl, hv20, h⟩ := h
    refine x_cv (x_runVN (As := [.ref (ad (3 * v19))]) (rest := []) E (c_X0_layOut8 h) yk_X0_layOut yi_X0_layOut kmn_X3_88 ⟨Nat.le_of_ble_eq_true rfl, Nat.le_of_ble_eq_true rfl⟩ ⟨Nat.le_of_ble_eq_true rfl, Nat.le_of_ble_eq_true rfl⟩ hH (va_recv E.2.2.2.2.2.1 hH.1 (ci := 0) (q0 := 8) rfl wC_g8) hl.1 rfl rfl (lv_room (Nat.le_of_ble_eq_true rfl)) dX3_differ_102) hH (fun C21 H locs h hH => ?_)
    refine lv_aload_n hx hb dX3_differ_105 rfl (lv_at hl 0 rfl) ?_
    refine x_get (ci := 3) (CN := RX3) (T := TX3) (N := 11) E in_X3 hH 0 wC_g0 rfl 7 (by decide) kf_X3_35 rfl dX3_differ_106 ?_
    refine x_cv (x_runVN (As := []) (rest := []) E (c_X1_clear h) yk_X1_clear yi_X1_clear kmn_X3_179 ⟨Nat.le_of_ble_eq_true rfl, Nat.le_of_ble_eq_true rfl⟩ ⟨Nat.le_of_ble_eq_true rfl, Nat.le_of_ble_eq_true rfl⟩ hH (va_recv E.2.2.2.2.2.1 hH.1 (ci := 1) (q0 := 12) rfl wC_g12) hl.1 rfl rfl (lv_room (Nat.le_of_ble_eq_true rfl)) dX3_differ_109) hH (fun C23 H locs h hH => ?_)
    refine lv_aload_n hx hb dX3_differ_112 rfl (lv_at hl 0 rfl) ?_
    refine x_get (ci := 3) (CN := RX3) (T := TX3) (N := 11) E in_X3 hH 0 wC_g0 rfl 7 (by decide) kf_X3_35 rfl dX3_differ_113 ?_
    refine lv_aload_n hx hb dX3_differ_116 rfl (lv_at hl 0 rfl) ?_
    refine x_get (ci := 3) (CN := RX3) (T := TX3) (N := 11) E in_X3 hH 0 wC_g0 rfl 5 (by decide) kf_X3_25 rfl dX3_differ_117 ?_
    refine lv_iload_n hx hb dX3_differ_120 rfl (lv_at hl 2 rfl) ?_
    refine lv_iload_n hx hb dX3_differ_121 rfl (lv_at hl 3 rfl) ?_
    refine lv_iconst (v := (1 : Int32)) hx hb dX3_differ_122 (by decide) ?_
    refine x_cv (x_runVN (As := [.ref (a 4), .int x2, .int x3, .int (1 : Int32)]) (rest := []) E (c_X1_count4 h) yk_X1_count yi_X1_count kmn_X3_182 ⟨Nat.le_of_ble_eq_true rfl, Nat.le_of_ble_eq_true rfl⟩ ⟨Nat.le_of_ble_eq_true rfl, Nat.le_of_ble_eq_true rfl⟩ hH (va_recv E.2.2.2.2.2.1 hH.1 (ci := 1) (q0 := 12) rfl wC_g12) hl.1 rfl rfl (lv_room (Nat.le_of_ble_eq_true rfl)) dX3_differ_123) hH (fun C25 H locs h hH => ?_)
    refine lv_aload_n hx hb dX3_differ_126 rfl (lv_at hl 0 rfl) ?_
    refine x_get (ci := 3) (CN := RX3) (T := TX3) (N := 11) E in_X3 hH 0 wC_g0 rfl 7 (by decide) kf_X3_35 rfl dX3_differ_127 ?_
    refine lv_aload_n hx hb dX3_differ_130 rfl (lv_at hl 0 rfl) ?_
    refine x_get (ci := 3) (CN := RX3) (T := TX3) (N := 11) E in_X3 hH 0 wC_g0 rfl 6 (by decide) kf_X3_29 rfl dX3_differ_131 ?_
    refine lv_iload hx hb dX3_differ_134 (lv_at hl 5 rfl) ?_
    refine lv_iload hx hb dX3_differ_136 (lv_at hl 5 rfl) ?_
    refine lv_iload_n hx hb dX3_differ_138 rfl (lv_at hl 3 rfl) ?_
    refine lv_iload_n hx hb dX3_differ_139 rfl (lv_at hl 2 rfl) ?_
    refine lv_isub hx hb dX3_differ_140 ?_
    refine lv_iadd hx hb dX3_differ_141 ?_
    refine lv_iconst (v := (-1 : Int32)) hx hb dX3_differ_142 (by decide) ?_
    refine x_cv (x_runVN (As := [.ref (a 8), .int x5, .int (x5 + (x3 - x2)), .int (-1 : Int32)]) (rest := []) E (c_X1_count8 h) yk_X1_count yi_X1_count kmn_X3_182 ⟨Nat.le_of_ble_eq_true rfl, Nat.le_of_ble_eq_true rfl⟩ ⟨Nat.le_of_ble_eq_true rfl, Nat.le_of_ble_eq_true rfl⟩ hH (va_recv E.2.2.2.2.2.1 hH.1 (ci := 1) (q0 := 12) rfl wC_g12) hl.1 rfl rfl (lv_room (Nat.le_of_ble_eq_true rfl)) dX3_differ_143) hH (fun C27 H locs h hH => ?_)
    refine lv_aload_n hx hb dX3_differ_146 rfl (lv_at hl 0 rfl) ?_
    refine lv_aload_n hx hb dX3_differ_147 rfl (lv_at hl 0 rfl) ?_
    refine x_get (ci := 3) (CN := RX3) (T := TX3) (N := 11) E in_X3 hH 0 wC_g0 rfl 7 (by decide) kf_X3_35 rfl dX3_differ_148 ?_
    refine x_ci (x_runVN (As := []) (rest := [.ref (a 0)]) E (c_X1_leastUneven h) yk_X1_leastUneven yi_X1_leastUneven kmn_X3_186 ⟨Nat.le_of_ble_eq_true rfl, Nat.le_of_ble_eq_true rfl⟩ ⟨Nat.le_of_ble_eq_true rfl, Nat.le_of_ble_eq_true rfl⟩ hH (va_recv E.2.2.2.2.2.1 hH.1 (ci := 1) (q0 := 12) rfl wC_g12) hl.1 rfl rfl (lv_room (Nat.le_of_ble_eq_true rfl)) dX3_differ_151) hH (fun r30 C29 H locs h hH => ?_)
    refine x_ci (x_runV (As := [.int r30]) (rest := []) E (c_X3_foundOrNone h) yk_X3_foundOrNone yi_X3_foundOrNone km_X3_156 ⟨Nat.le_of_ble_eq_true rfl, Nat.le_of_ble_eq_true rfl⟩ ⟨Nat.le_of_ble_eq_true rfl, Nat.le_of_ble_eq_true rfl⟩ hH (va_recv E.2.2.2.2.2.1 hH.1 (ci := 3) (q0 := 0) rfl wC_g0) hl.1 rfl rfl (lv_room (Nat.le_of_ble_eq_true rfl)) dX3_differ_154) hH (fun r32 C31 H locs h hH => ?_)
    exact x_iret E hH h dX3_differ_157
  · have h := h.2 hc
    refine lv_aload_n hx hb dX3_differ_71 rfl (lv_at hl 0 rfl) ?_
    refine lv_iload hx hb dX3_differ_72 (lv_at hl 6 rfl) ?_
    refine x_ci (x_runV (As := [.int x6]) (rest := []) E (c_X3_told h) yk_X3_told yi_X3_told km_X3_56 ⟨Nat.le_of_ble_eq_true rfl, Nat.le_of_ble_eq_true rfl⟩ ⟨Nat.le_of_ble_eq_true rfl, Nat.le_of_ble_eq_true rfl⟩ hH (va_recv E.2.2.2.2.2.1 hH.1 (ci := 3) (q0 := 0) rfl wC_g0) hl.1 rfl rfl (lv_room (Nat.le_of_ble_eq_true rfl)) dX3_differ_74) hH (fun r34 C33 H locs h hH => ?_)
    exact x_iret E hH h dX3_differ_77
set_option maxHeartbeats 4000000 in
set_option maxRecDepth 100000 in
theorem k_X3_differ_63 {post : Int32 → CS → Prop} (E : Cx p s m args meth c cX3_differ 7 RX3 (some .int) D (tyW cI cS cO))  {C : CS} {x1 : Int32} {x2 : Int32} {x3 : Int32} {x4 : Int32} {x5 : Int32} {H : Heap} {locs : List Loc} {ls : Array Slot} (hH : HX D (wC cI cO a ad C) A s.heap H locs) (hl : lv_has ls 7 [(0, .ref (a 0)), (1, .int x1), (2, .int x2), (3, .int x3), (4, .int x4), (5, .int x5)]) (h : w_X3_differ_63 post C x1 x2 x3 x4 x5) : W p l e (rmA 3 0 0) s m args below meth c H locs 0 0 (MQ below ((QI D (wC cI cO a ad) post) A) args s 0 0 A) (F0 m 63 ls []) := by
  have hx := E.1
  have hb := E.2.1
  unfold w_X3_differ_63 at h
  refine lv_iconst (v := (-1 : Int32)) hx hb dX3_differ_63 (by decide) ?_
  refine lv_istore (lv' := [(6, .int (-1 : Int32)), (0, .ref (a 0)), (1, .int x1), (2, .int x2), (3, .int x3), (4, .int x4), (5, .int x5)]) hx hb dX3_differ_64 hl (by decide) rfl (fun ls hl => ?_)
  exact k_X3_differ_66 E  hH (lv_sub hl [1, 2, 3, 4, 5, 6, 0] rfl) h
set_option maxHeartbeats 4000000 in
set_option maxRecDepth 100000 in
theorem k_X3_differ_34 {post : Int32 → CS → Prop} (E : Cx p s m args meth c cX3_differ 7 RX3 (some .int) D (tyW cI cS cO))  {C : CS} {x1 : Int32} {x2 : Int32} {x3 : Int32} {x4 : Int32} {x5 : Int32} {x6 : Int32} {H : Heap} {locs : List Loc} {ls : Array Slot} (hH : HX D (wC cI cO a ad C) A s.heap H locs) (hl : lv_has ls 7 [(0, .ref (a 0)), (1, .int x1), (2, .int x2), (3, .int x3), (4, .int x4), (5, .int x5), (6, .int x6)]) (h : w_X3_differ_34 post C x1 x2 x3 x4 x5 x6) : W p l e (rmA 3 0 0) s m args below meth c H locs 0 0 (MQ below ((QI D (wC cI cO a ad) post) A) args s 0 0 A) (F0 m 34 ls []) := by
  have hx := E.1
  have hb := E.2.1
  unfold w_X3_differ_34 at h
  refine lv_iload hx hb dX3_differ_34 (lv_at hl 6 rfl) ?_
  refine lv_if_ne (tgt := 66) hx hb dX3_differ_36 (by decide) (fun hc => ?_) (fun hc => ?_)
  · have h := h.1 hc
    exact k_X3_differ_66 E  hH (lv_sub hl [0, 1, 2, 3, 4, 5, 6] rfl) h
  · have h := h.2 hc
    refine lv_iload hx hb dX3_differ_39 (lv_at hl 5 rfl) ?_
    refine lv_if_lt (tgt := 63) hx hb dX3_differ_41 (by decide) (fun hc => ?_) (fun hc => ?_)
    · have h := h.1 hc
      exact k_X3_differ_63 E  hH (lv_sub hl [0, 1, 2, 3, 4, 5] rfl) h
    · have h := h.2 hc
      refine lv_iload hx hb dX3_differ_44 (lv_at hl 5 rfl) ?_
      refine lv_aload_n hx hb dX3_differ_46 rfl (lv_at hl 0 rfl) ?_
      refine x_get (ci := 3) (CN := RX3) (T := TX3) (N := 11) E in_X3 hH 0 wC_g0 rfl 3 (by decide) kf_X3_15 rfl dX3_differ_47 ?_
      refine lv_iload hx hb dX3_differ_50 (lv_at hl 4 rfl) ?_
      obtain ⟨hi8, h⟩ := h
      refine x_aald E hH 2 2 wC_g2 rfl hi8 dX3_differ_52 ?_
      refine q_top (ad := ad) (x := co C 2 (Int32.toNatClampNeg x4)) (fun w7 ew7 => ?_)
      have h := h w7 ew7
      obtain ⟨v9, rfl, hv10, h⟩ := h
      refine x_getN (ci := 2) (CN := RX2) (T := TX2) (N := 9) E in_X2 hH (17 + 3 * v9) (wC_v0 hv10) rfl 3 (by decide) kfn_X3_66 rfl dX3_differ_53 ?_
      refine lv_iload_n hx hb dX3_differ_56 rfl (lv_at hl 3 rfl) ?_
      refine lv_iload_n hx hb dX3_differ_57 rfl (lv_at hl 2 rfl) ?_
      refine lv_isub hx hb dX3_differ_58 ?_
      refine lv_isub hx hb dX3_differ_59 ?_
      refine lv_icmp_le (tgt := 66) hx hb dX3_differ_60 (by decide) (fun hc => ?_) (fun hc => ?_)
      · have h := h.1 hc
        exact k_X3_differ_66 E  hH (lv_sub hl [0, 1, 2, 3, 4, 5, 6] rfl) h
      · have h := h.2 hc
        exact k_X3_differ_63 E  hH (lv_sub hl [0, 1, 2, 3, 4, 5] rfl) h
set_option maxHeartbeats 4000000 in
set_option maxRecDepth 100000 in
theorem k_X3_differ_20 {post : Int32 → CS → Prop} (E : Cx p s m args meth c cX3_differ 7 RX3 (some .int) D (tyW cI cS cO))  {C : CS} {x1 : Int32} {x2 : Int32} {x3 : Int32} {x4 : Int32} {x5 : Int32} {x6 : Int32} {H : Heap} {locs : List Loc} {ls : Array Slot} (hH : HX D (wC cI cO a ad C) A s.heap H locs) (hl : lv_has ls 7 [(0, .ref (a 0)), (1, .int x1), (2, .int x2), (3, .int x3), (4, .int x4), (5, .int x5), (6, .int x6)]) (h : w_X3_differ_20 post C x1 x2 x3 x4 x5 x6) : W p l e (rmA 3 0 0) s m args below meth c H locs 0 0 (MQ below ((QI D (wC cI cO a ad) post) A) args s 0 0 A) (F0 m 20 ls []) := by
  have hx := E.1
  have hb := E.2.1
  unfold w_X3_differ_20 at h
  refine lv_iload hx hb dX3_differ_20 (lv_at hl 6 rfl) ?_
  refine lv_if_ne (tgt := 34) hx hb dX3_differ_22 (by decide) (fun hc => ?_) (fun hc => ?_)
  · have h := h.1 hc
    exact k_X3_differ_34 E  hH (lv_sub hl [0, 1, 2, 3, 4, 5, 6] rfl) h
  · have h := h.2 hc
    refine lv_aload_n hx hb dX3_differ_25 rfl (lv_at hl 0 rfl) ?_
    refine lv_iload_n hx hb dX3_differ_26 rfl (lv_at hl 1 rfl) ?_
    refine lv_iload_n hx hb dX3_differ_27 rfl (lv_at hl 2 rfl) ?_
    refine lv_iload_n hx hb dX3_differ_28 rfl (lv_at hl 3 rfl) ?_
    refine x_ci (x_runV (As := [.int x1, .int x2, .int x3]) (rest := []) E (c_X3_findingOfSpan h) yk_X3_findingOfSpan yi_X3_findingOfSpan km_X3_84 ⟨Nat.le_of_ble_eq_true rfl, Nat.le_of_ble_eq_true rfl⟩ ⟨Nat.le_of_ble_eq_true rfl, Nat.le_of_ble_eq_true rfl⟩ hH (va_recv E.2.2.2.2.2.1 hH.1 (ci := 3) (q0 := 0) rfl wC_g0) hl.1 rfl rfl (lv_room (Nat.le_of_ble_eq_true rfl)) dX3_differ_29) hH (fun r6 C5 H locs h hH => ?_)
    refine lv_istore (lv' := [(6, .int r6), (0, .ref (a 0)), (1, .int x1), (2, .int x2), (3, .int x3), (4, .int x4), (5, .int x5)]) hx hb dX3_differ_32 hl (by decide) rfl (fun ls hl => ?_)
    exact k_X3_differ_34 E  hH (lv_sub hl [1, 2, 3, 4, 5, 6, 0] rfl) h
set_option maxHeartbeats 4000000 in
set_option maxRecDepth 100000 in
theorem c_X3_differ {l : Launch} {D : va_G} {cI cS cO : ClassId} {a ad : Nat → Nat} {C : CS} {x1 : Int32} {x2 : Int32} {x3 : Int32} {x4 : Int32} {x5 : Int32} {post : Int32 → CS → Prop} (h : w_X3_differ post C x1 x2 x3 x4 x5) : MetX l D (tyW cI cS cO) yX3_differ cX3_differ 7 (some .int) 3 0 0 [.ref (a 0), .int x1, .int x2, .int x3, .int x4, .int x5] (wC cI cO a ad C) (QI D (wC cI cO a ad) post) := by
  refine x_ent (by decide) (Nat.le_of_ble_eq_true rfl) ?_
  intro p e s m below meth c ls E _ hH hl
  have hx := E.1
  have hb := E.2.1
  generalize va_A (wC cI cO a ad C) s.heap.size = A at hH ⊢
  have hl : lv_has ls 7 [(0, .ref (a 0)), (1, .int x1), (2, .int x2), (3, .int x3), (4, .int x4), (5, .int x5)] := hl
  unfold w_X3_differ at h
  refine lv_aload_n hx hb dX3_differ_0 rfl (lv_at hl 0 rfl) ?_
  refine lv_iload_n hx hb dX3_differ_1 rfl (lv_at hl 1 rfl) ?_
  refine x_ci (x_runV (As := [.int x1]) (rest := []) E (c_X3_findingOfPlace h) yk_X3_findingOfPlace yi_X3_findingOfPlace km_X3_121 ⟨Nat.le_of_ble_eq_true rfl, Nat.le_of_ble_eq_true rfl⟩ ⟨Nat.le_of_ble_eq_true rfl, Nat.le_of_ble_eq_true rfl⟩ hH (va_recv E.2.2.2.2.2.1 hH.1 (ci := 3) (q0 := 0) rfl wC_g0) hl.1 rfl rfl (lv_room (Nat.le_of_ble_eq_true rfl)) dX3_differ_2) hH (fun r2 C1 H locs h hH => ?_)
  refine lv_istore (lv' := [(6, .int r2), (0, .ref (a 0)), (1, .int x1), (2, .int x2), (3, .int x3), (4, .int x4), (5, .int x5)]) hx hb dX3_differ_5 hl (by decide) rfl (fun ls hl => ?_)
  refine lv_iload hx hb dX3_differ_7 (lv_at hl 0 rfl) ?_
  refine lv_if_ne (tgt := 20) hx hb dX3_differ_9 (by decide) (fun hc => ?_) (fun hc => ?_)
  · have h := h.1 hc
    exact k_X3_differ_20 E  hH (lv_sub hl [1, 2, 3, 4, 5, 6, 0] rfl) h
  · have h := h.2 hc
    refine lv_aload_n hx hb dX3_differ_12 rfl (lv_at hl 1 rfl) ?_
    refine lv_iload hx hb dX3_differ_13 (lv_at hl 5 rfl) ?_
    refine x_ci (x_runV (As := [.int x4]) (rest := []) E (c_X3_findingOfPlace h) yk_X3_findingOfPlace yi_X3_findingOfPlace km_X3_121 ⟨Nat.le_of_ble_eq_true rfl, Nat.le_of_ble_eq_true rfl⟩ ⟨Nat.le_of_ble_eq_true rfl, Nat.le_of_ble_eq_true rfl⟩ hH (va_recv E.2.2.2.2.2.1 hH.1 (ci := 3) (q0 := 0) rfl wC_g0) hl.1 rfl rfl (lv_room (Nat.le_of_ble_eq_true rfl)) dX3_differ_15) hH (fun r4 C3 H locs h hH => ?_)
    refine lv_istore (lv' := [(6, .int r4), (0, .ref (a 0)), (1, .int x1), (2, .int x2), (3, .int x3), (4, .int x4), (5, .int x5)]) hx hb dX3_differ_18 hl (by decide) rfl (fun ls hl => ?_)
    exact k_X3_differ_20 E  hH (lv_sub hl [1, 2, 3, 4, 5, 6, 0] rfl) h
set_option maxHeartbeats 4000000 in
set_option maxRecDepth 100000 in
theorem k_X3_first_16 {post : Int32 → CS → Prop} (E : Cx p s m args meth c cX3_first 4 RX3 (some .int) D (tyW cI cS cO))  {C : CS} {x1 : Int32} {x2 : Int32} {x3 : Int32} {H : Heap} {locs : List Loc} {ls : Array Slot} (hH : HX D (wC cI cO a ad C) A s.heap H locs) (hl : lv_has ls 4 [(0, .ref (a 0)), (1, .int x1), (2, .int x2), (3, .int x3)]) (h : w_X3_first_16 post C x1 x2 x3) : W p l e (rmA 2 0 0) s m args below meth c H locs 0 0 (MQ below ((QI D (wC cI cO a ad) post) A) args s 0 0 A) (F0 m 16 ls []) := by
  have hx := E.1
  have hb := E.2.1
  unfold w_X3_first_16 at h
  refine lv_iload_n hx hb dX3_first_16 rfl (lv_at hl 3 rfl) ?_
  refine lv_if_eq (tgt := 26) hx hb dX3_first_17 (by decide) (fun hc => ?_) (fun hc => ?_)
  · have h := h.1 hc
    refine lv_aload_n hx hb dX3_first_26 rfl (lv_at hl 0 rfl) ?_
    refine x_get (ci := 3) (CN := RX3) (T := TX3) (N := 11) E in_X3 hH 0 wC_g0 rfl 5 (by decide) kf_X3_25 rfl dX3_first_27 ?_
    refine lv_aload_n hx hb dX3_first_30 rfl (lv_at hl 0 rfl) ?_
    refine x_get (ci := 3) (CN := RX3) (T := TX3) (N := 11) E in_X3 hH 0 wC_g0 rfl 3 (by decide) kf_X3_15 rfl dX3_first_31 ?_
    refine lv_iload_n hx hb dX3_first_34 rfl (lv_at hl 1 rfl) ?_
    obtain ⟨hi6, h⟩ := h
    refine x_aald E hH 2 2 wC_g2 rfl hi6 dX3_first_35 ?_
    refine q_top (ad := ad) (x := co C 2 (Int32.toNatClampNeg x1)) (fun w5 ew5 => ?_)
    have h := h w5 ew5
    obtain ⟨v7, rfl, hv8, h⟩ := h
    refine x_cv (x_runVN (As := [.ref (ad (3 * v7))]) (rest := []) E (c_X0_layOut4 h) yk_X0_layOut yi_X0_layOut kmn_X3_88 ⟨Nat.le_of_ble_eq_true rfl, Nat.le_of_ble_eq_true rfl⟩ ⟨Nat.le_of_ble_eq_true rfl, Nat.le_of_ble_eq_true rfl⟩ hH (va_recv E.2.2.2.2.2.1 hH.1 (ci := 0) (q0 := 4) rfl wC_g4) hl.1 rfl rfl (lv_room (Nat.le_of_ble_eq_true rfl)) dX3_first_36) hH (fun C9 H locs h hH => ?_)
    refine lv_aload_n hx hb dX3_first_39 rfl (lv_at hl 0 rfl) ?_
    refine x_get (ci := 3) (CN := RX3) (T := TX3) (N := 11) E in_X3 hH 0 wC_g0 rfl 6 (by decide) kf_X3_29 rfl dX3_first_40 ?_
    refine lv_aload_n hx hb dX3_first_43 rfl (lv_at hl 0 rfl) ?_
    refine x_get (ci := 3) (CN := RX3) (T := TX3) (N := 11) E in_X3 hH 0 wC_g0 rfl 3 (by decide) kf_X3_15 rfl dX3_first_44 ?_
    refine lv_iload_n hx hb dX3_first_47 rfl (lv_at hl 2 rfl) ?_
    obtain ⟨hi12, h⟩ := h
    refine x_aald E hH 2 2 wC_g2 rfl hi12 dX3_first_48 ?_
    refine q_top (ad := ad) (x := co C9 2 (Int32.toNatClampNeg x2)) (fun w11 ew11 => ?_)
    have h := h w11 ew11
    obtain ⟨v13, rfl, hv14, h⟩ := h
    refine x_cv (x_runVN (As := [.ref (ad (3 * v13))]) (rest := []) E (c_X0_layOut8 h) yk_X0_layOut yi_X0_layOut kmn_X3_88 ⟨Nat.le_of_ble_eq_true rfl, Nat.le_of_ble_eq_true rfl⟩ ⟨Nat.le_of_ble_eq_true rfl, Nat.le_of_ble_eq_true rfl⟩ hH (va_recv E.2.2.2.2.2.1 hH.1 (ci := 0) (q0 := 8) rfl wC_g8) hl.1 rfl rfl (lv_room (Nat.le_of_ble_eq_true rfl)) dX3_first_49) hH (fun C15 H locs h hH => ?_)
    refine lv_aload_n hx hb dX3_first_52 rfl (lv_at hl 0 rfl) ?_
    refine lv_aload_n hx hb dX3_first_53 rfl (lv_at hl 0 rfl) ?_
    refine x_get (ci := 3) (CN := RX3) (T := TX3) (N := 11) E in_X3 hH 0 wC_g0 rfl 5 (by decide) kf_X3_25 rfl dX3_first_54 ?_
    refine lv_aload_n hx hb dX3_first_57 rfl (lv_at hl 0 rfl) ?_
    refine x_get (ci := 3) (CN := RX3) (T := TX3) (N := 11) E in_X3 hH 0 wC_g0 rfl 6 (by decide) kf_X3_29 rfl dX3_first_58 ?_
    refine x_ci (x_runVN (As := [.ref (a 8)]) (rest := [.ref (a 0)]) E (c_X0_placeApartFrom h) yk_X0_placeApartFrom yi_X0_placeApartFrom kmn_X3_189 ⟨Nat.le_of_ble_eq_true rfl, Nat.le_of_ble_eq_true rfl⟩ ⟨Nat.le_of_ble_eq_true rfl, Nat.le_of_ble_eq_true rfl⟩ hH (va_recv E.2.2.2.2.2.1 hH.1 (ci := 0) (q0 := 4) rfl wC_g4) hl.1 rfl rfl (lv_room (Nat.le_of_ble_eq_true rfl)) dX3_first_61) hH (fun r18 C17 H locs h hH => ?_)
    refine x_ci (x_runV (As := [.int r18]) (rest := []) E (c_X3_foundOrNone h) yk_X3_foundOrNone yi_X3_foundOrNone km_X3_156 ⟨Nat.le_of_ble_eq_true rfl, Nat.le_of_ble_eq_true rfl⟩ ⟨Nat.le_of_ble_eq_true rfl, Nat.le_of_ble_eq_true rfl⟩ hH (va_recv E.2.2.2.2.2.1 hH.1 (ci := 3) (q0 := 0) rfl wC_g0) hl.1 rfl rfl (lv_room (Nat.le_of_ble_eq_true rfl)) dX3_first_64) hH (fun r20 C19 H locs h hH => ?_)
    exact x_iret E hH h dX3_first_67
  · have h := h.2 hc
    refine lv_aload_n hx hb dX3_first_20 rfl (lv_at hl 0 rfl) ?_
    refine lv_iload_n hx hb dX3_first_21 rfl (lv_at hl 3 rfl) ?_
    refine x_ci (x_runV (As := [.int x3]) (rest := []) E (c_X3_told h) yk_X3_told yi_X3_told km_X3_56 ⟨Nat.le_of_ble_eq_true rfl, Nat.le_of_ble_eq_true rfl⟩ ⟨Nat.le_of_ble_eq_true rfl, Nat.le_of_ble_eq_true rfl⟩ hH (va_recv E.2.2.2.2.2.1 hH.1 (ci := 3) (q0 := 0) rfl wC_g0) hl.1 rfl rfl (lv_room (Nat.le_of_ble_eq_true rfl)) dX3_first_22) hH (fun r22 C21 H locs h hH => ?_)
    exact x_iret E hH h dX3_first_25
set_option maxHeartbeats 4000000 in
set_option maxRecDepth 100000 in
theorem c_X3_first {l : Launch} {D : va_G} {cI cS cO : ClassId} {a ad : Nat → Nat} {C : CS} {x1 : Int32} {x2 : Int32} {post : Int32 → CS → Prop} (h : w_X3_first post C x1 x2) : MetX l D (tyW cI cS cO) yX3_first cX3_first 4 (some .int) 2 0 0 [.ref (a 0), .int x1, .int x2] (wC cI cO a ad C) (QI D (wC cI cO a ad) post) := by
  refine x_ent (by decide) (Nat.le_of_ble_eq_true rfl) ?_
  intro p e s m below meth c ls E _ hH hl
  have hx := E.1
  have hb := E.2.1
  generalize va_A (wC cI cO a ad C) s.heap.size = A at hH ⊢
  have hl : lv_has ls 4 [(0, .ref (a 0)), (1, .int x1), (2, .int x2)] := hl
  unfold w_X3_first at h
  refine lv_aload_n hx hb dX3_first_0 rfl (lv_at hl 0 rfl) ?_
  refine lv_iload_n hx hb dX3_first_1 rfl (lv_at hl 1 rfl) ?_
  refine x_ci (x_runV (As := [.int x1]) (rest := []) E (c_X3_findingOfPlace h) yk_X3_findingOfPlace yi_X3_findingOfPlace km_X3_121 ⟨Nat.le_of_ble_eq_true rfl, Nat.le_of_ble_eq_true rfl⟩ ⟨Nat.le_of_ble_eq_true rfl, Nat.le_of_ble_eq_true rfl⟩ hH (va_recv E.2.2.2.2.2.1 hH.1 (ci := 3) (q0 := 0) rfl wC_g0) hl.1 rfl rfl (lv_room (Nat.le_of_ble_eq_true rfl)) dX3_first_2) hH (fun r2 C1 H locs h hH => ?_)
  refine lv_istore_n (lv' := [(3, .int r2), (0, .ref (a 0)), (1, .int x1), (2, .int x2)]) hx hb dX3_first_5 rfl hl (by decide) rfl (fun ls hl => ?_)
  refine lv_iload_n hx hb dX3_first_6 rfl (lv_at hl 0 rfl) ?_
  refine lv_if_ne (tgt := 16) hx hb dX3_first_7 (by decide) (fun hc => ?_) (fun hc => ?_)
  · have h := h.1 hc
    exact k_X3_first_16 E  hH (lv_sub hl [1, 2, 3, 0] rfl) h
  · have h := h.2 hc
    refine lv_aload_n hx hb dX3_first_10 rfl (lv_at hl 1 rfl) ?_
    refine lv_iload_n hx hb dX3_first_11 rfl (lv_at hl 3 rfl) ?_
    refine x_ci (x_runV (As := [.int x2]) (rest := []) E (c_X3_findingOfPlace h) yk_X3_findingOfPlace yi_X3_findingOfPlace km_X3_121 ⟨Nat.le_of_ble_eq_true rfl, Nat.le_of_ble_eq_true rfl⟩ ⟨Nat.le_of_ble_eq_true rfl, Nat.le_of_ble_eq_true rfl⟩ hH (va_recv E.2.2.2.2.2.1 hH.1 (ci := 3) (q0 := 0) rfl wC_g0) hl.1 rfl rfl (lv_room (Nat.le_of_ble_eq_true rfl)) dX3_first_12) hH (fun r4 C3 H locs h hH => ?_)
    refine lv_istore_n (lv' := [(3, .int r4), (0, .ref (a 0)), (1, .int x1), (2, .int x2)]) hx hb dX3_first_15 rfl hl (by decide) rfl (fun ls hl => ?_)
    exact k_X3_first_16 E  hH (lv_sub hl [1, 2, 3, 0] rfl) h
set_option maxHeartbeats 4000000 in
set_option maxRecDepth 100000 in
theorem k_X3_step_12 {post : Int32 → CS → Prop} (E : Cx p s m args meth c cX3_step 2 RX3 (some .int) D (tyW cI cS cO))  {C : CS}  {H : Heap} {locs : List Loc} {ls : Array Slot} (hH : HX D (wC cI cO a ad C) A s.heap H locs) (hl : lv_has ls 2 [(0, .ref (a 0))]) (h : w_X3_step_12 post C ) : W p l e (rmA 1 0 0) s m args below meth c H locs 0 0 (MQ below ((QI D (wC cI cO a ad) post) A) args s 0 0 A) (F0 m 12 ls []) := by
  have hx := E.1
  have hb := E.2.1
  unfold w_X3_step_12 at h
  refine lv_aload_n hx hb dX3_step_12 rfl (lv_at hl 0 rfl) ?_
  refine lv_bipush (v := (-6 : Int32)) hx hb dX3_step_13 (by decide) ?_
  refine x_ci (x_runV (As := [.int (-6 : Int32)]) (rest := []) E (c_X3_told h) yk_X3_told yi_X3_told km_X3_56 ⟨Nat.le_of_ble_eq_true rfl, Nat.le_of_ble_eq_true rfl⟩ ⟨Nat.le_of_ble_eq_true rfl, Nat.le_of_ble_eq_true rfl⟩ hH (va_recv E.2.2.2.2.2.1 hH.1 (ci := 3) (q0 := 0) rfl wC_g0) hl.1 rfl rfl (lv_room (Nat.le_of_ble_eq_true rfl)) dX3_step_15) hH (fun r3 C2 H locs h hH => ?_)
  exact x_iret E hH h dX3_step_18
set_option maxHeartbeats 4000000 in
set_option maxRecDepth 100000 in
theorem c_X3_step {l : Launch} {D : va_G} {cI cS cO : ClassId} {a ad : Nat → Nat} {C : CS} {x1 : Int32} {post : Int32 → CS → Prop} (h : w_X3_step post C x1) : MetX l D (tyW cI cS cO) yX3_step cX3_step 2 (some .int) 1 0 0 [.ref (a 0), .int x1] (wC cI cO a ad C) (QI D (wC cI cO a ad) post) := by
  refine x_ent (by decide) (Nat.le_of_ble_eq_true rfl) ?_
  intro p e s m below meth c ls E _ hH hl
  have hx := E.1
  have hb := E.2.1
  generalize va_A (wC cI cO a ad C) s.heap.size = A at hH ⊢
  have hl : lv_has ls 2 [(0, .ref (a 0)), (1, .int x1)] := hl
  unfold w_X3_step at h
  refine lv_iload_n hx hb dX3_step_0 rfl (lv_at hl 1 rfl) ?_
  refine lv_if_lt (tgt := 12) hx hb dX3_step_1 (by decide) (fun hc => ?_) (fun hc => ?_)
  · have h := h.1 hc
    exact k_X3_step_12 E  hH (lv_sub hl [0] rfl) h
  · have h := h.2 hc
    refine lv_iload_n hx hb dX3_step_4 rfl (lv_at hl 1 rfl) ?_
    refine lv_aload_n hx hb dX3_step_5 rfl (lv_at hl 0 rfl) ?_
    refine x_get (ci := 3) (CN := RX3) (T := TX3) (N := 11) E in_X3 hH 0 wC_g0 rfl 9 (by decide) kf_X3_193 rfl dX3_step_6 ?_
    refine lv_icmp_lt (tgt := 19) hx hb dX3_step_9 (by decide) (fun hc => ?_) (fun hc => ?_)
    · have h := h.1 hc
      refine lv_aload_n hx hb dX3_step_19 rfl (lv_at hl 0 rfl) ?_
      refine x_get (ci := 3) (CN := RX3) (T := TX3) (N := 11) E in_X3 hH 0 wC_g0 rfl 8 (by decide) kf_X3_39 rfl dX3_step_20 ?_
      refine lv_iload_n hx hb dX3_step_23 rfl (lv_at hl 1 rfl) ?_
      obtain ⟨hi1, h⟩ := h
      refine x_iald E hH 15 0 wC_g15 rfl hi1 dX3_step_24 ?_
      exact x_iret E hH h dX3_step_25
    · have h := h.2 hc
      exact k_X3_step_12 E  hH (lv_sub hl [0] rfl) h
set_option maxHeartbeats 4000000 in
set_option maxRecDepth 100000 in
theorem k_X3_found_11 {post : Int32 → CS → Prop} (E : Cx p s m args meth c cX3_found 2 RX3 (some .int) D (tyW cI cS cO))  {C : CS}  {H : Heap} {locs : List Loc} {ls : Array Slot} (hH : HX D (wC cI cO a ad C) A s.heap H locs) (hl : lv_has ls 2 [(0, .ref (a 0))]) (h : w_X3_found_11 post C ) : W p l e (rmA 1 0 0) s m args below meth c H locs 0 0 (MQ below ((QI D (wC cI cO a ad) post) A) args s 0 0 A) (F0 m 11 ls []) := by
  have hx := E.1
  have hb := E.2.1
  unfold w_X3_found_11 at h
  refine lv_aload_n hx hb dX3_found_11 rfl (lv_at hl 0 rfl) ?_
  refine lv_iconst (v := (-1 : Int32)) hx hb dX3_found_12 (by decide) ?_
  refine x_ci (x_runV (As := [.int (-1 : Int32)]) (rest := []) E (c_X3_told h) yk_X3_told yi_X3_told km_X3_56 ⟨Nat.le_of_ble_eq_true rfl, Nat.le_of_ble_eq_true rfl⟩ ⟨Nat.le_of_ble_eq_true rfl, Nat.le_of_ble_eq_true rfl⟩ hH (va_recv E.2.2.2.2.2.1 hH.1 (ci := 3) (q0 := 0) rfl wC_g0) hl.1 rfl rfl (lv_room (Nat.le_of_ble_eq_true rfl)) dX3_found_13) hH (fun r3 C2 H locs h hH => ?_)
  exact x_iret E hH h dX3_found_16
set_option maxHeartbeats 4000000 in
set_option maxRecDepth 100000 in
theorem c_X3_found {l : Launch} {D : va_G} {cI cS cO : ClassId} {a ad : Nat → Nat} {C : CS} {x1 : Int32} {post : Int32 → CS → Prop} (h : w_X3_found post C x1) : MetX l D (tyW cI cS cO) yX3_found cX3_found 2 (some .int) 1 0 0 [.ref (a 0), .int x1] (wC cI cO a ad C) (QI D (wC cI cO a ad) post) := by
  refine x_ent (by decide) (Nat.le_of_ble_eq_true rfl) ?_
  intro p e s m below meth c ls E _ hH hl
  have hx := E.1
  have hb := E.2.1
  generalize va_A (wC cI cO a ad C) s.heap.size = A at hH ⊢
  have hl : lv_has ls 2 [(0, .ref (a 0)), (1, .int x1)] := hl
  unfold w_X3_found at h
  refine lv_iload_n hx hb dX3_found_0 rfl (lv_at hl 1 rfl) ?_
  refine lv_iconst (v := (-1 : Int32)) hx hb dX3_found_1 (by decide) ?_
  refine lv_icmp_gt (tgt := 11) hx hb dX3_found_2 (by decide) (fun hc => ?_) (fun hc => ?_)
  · have h := h.1 hc
    exact k_X3_found_11 E  hH (lv_sub hl [0] rfl) h
  · have h := h.2 hc
    refine lv_iload_n hx hb dX3_found_5 rfl (lv_at hl 1 rfl) ?_
    refine lv_bipush (v := (-6 : Int32)) hx hb dX3_found_6 (by decide) ?_
    refine lv_icmp_ge (tgt := 17) hx hb dX3_found_8 (by decide) (fun hc => ?_) (fun hc => ?_)
    · have h := h.1 hc
      refine lv_aload_n hx hb dX3_found_17 rfl (lv_at hl 0 rfl) ?_
      refine x_get (ci := 3) (CN := RX3) (T := TX3) (N := 11) E in_X3 hH 0 wC_g0 rfl 10 (by decide) kf_X3_42 rfl dX3_found_18 ?_
      refine lv_iload_n hx hb dX3_found_21 rfl (lv_at hl 1 rfl) ?_
      refine lv_ineg hx hb dX3_found_22 ?_
      obtain ⟨hi1, h⟩ := h
      refine x_iald E hH 16 0 wC_g16 rfl hi1 dX3_found_23 ?_
      exact x_iret E hH h dX3_found_24
    · have h := h.2 hc
      exact k_X3_found_11 E  hH (lv_sub hl [0] rfl) h
end WALKS_D2
