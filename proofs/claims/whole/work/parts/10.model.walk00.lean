section WALKS_M0
variable {p : Program} {l : Launch} {e : Env} {s : State} {m : MethodId} {args : Array Value} {below : List Frame} {meth : Method} {c : Code} {D : va_G} {cI cS cO : ClassId} {a ad : Nat → Nat} {A : Nat → Prop}
set_option maxHeartbeats 4000000 in
set_option maxRecDepth 100000 in
theorem c_X4_answer {l : Launch} {D : va_G} {cI cS cO : ClassId} {a : Nat → Nat} {C : MS} {x1 : Int32} {post : Int32 → MS → Prop} (h : w_X4_answer post C x1) : MetX l D (tyW cI cS cO) yX4_answer cX4_answer 2 (some .int) 0 0 0 [.ref (a 0), .int x1] (wM cI cS a C) (QI D (wM cI cS a) post) := by
  refine x_ent (by decide) (Nat.le_of_ble_eq_true rfl) ?_
  intro p e s m below meth c ls E _ hH hl
  have hx := E.1
  have hb := E.2.1
  generalize va_A (wM cI cS a C) s.heap.size = A at hH ⊢
  have hl : lv_has ls 2 [(0, .ref (a 0)), (1, .int x1)] := hl
  unfold w_X4_answer at h
  refine lv_iload_n hx hb dX4_answer_0 rfl (lv_at hl 1 rfl) ?_
  refine lv_if_ge (tgt := 15) hx hb dX4_answer_1 (by decide) (fun hc => ?_) (fun hc => ?_)
  · have h := h.1 hc
    refine lv_iload_n hx hb dX4_answer_15 rfl (lv_at hl 1 rfl) ?_
    exact x_iret E hH h dX4_answer_16
  · have h := h.2 hc
    refine lv_aload_n hx hb dX4_answer_4 rfl (lv_at hl 0 rfl) ?_
    refine x_get (ci := 4) (CN := RX4) (T := TX4) (N := 20) E in_X4 hH 0 wM_g0 rfl 15 (by decide) kf_X4_49 rfl dX4_answer_5 ?_
    refine lv_iload_n hx hb dX4_answer_8 rfl (lv_at hl 1 rfl) ?_
    refine lv_ineg hx hb dX4_answer_9 ?_
    refine lv_dup2_11 hx hb dX4_answer_10 rfl rfl ?_
    obtain ⟨hi1, h⟩ := h
    refine x_iald E hH 12 0 wM_g15 rfl hi1 dX4_answer_11 ?_
    refine lv_iconst (v := (1 : Int32)) hx hb dX4_answer_12 (by decide) ?_
    refine lv_iadd hx hb dX4_answer_13 ?_
    refine x_iast E hH 12 0 wM_g15 rfl hi1 wM_s15 dX4_answer_14 (fun H locs hH => ?_)
    refine lv_iload_n hx hb dX4_answer_15 rfl (lv_at hl 1 rfl) ?_
    exact x_iret E hH h dX4_answer_16
set_option maxHeartbeats 4000000 in
set_option maxRecDepth 100000 in
theorem c_X4_isPlace {l : Launch} {D : va_G} {cI cS cO : ClassId} {a : Nat → Nat} {C : MS} {x0 : Int32} {post : Int32 → MS → Prop} (h : w_X4_isPlace post C x0) : MetX l D (tyW cI cS cO) yX4_isPlace cX4_isPlace 1 (some .boolean) 0 0 0 [.int x0] (wM cI cS a C) (QI D (wM cI cS a) post) := by
  refine x_ent (by decide) (Nat.le_of_ble_eq_true rfl) ?_
  intro p e s m below meth c ls E _ hH hl
  have hx := E.1
  have hb := E.2.1
  generalize va_A (wM cI cS a C) s.heap.size = A at hH ⊢
  have hl : lv_has ls 1 [(0, .int x0)] := hl
  unfold w_X4_isPlace at h
  refine lv_iload_n hx hb dX4_isPlace_0 rfl (lv_at hl 0 rfl) ?_
  refine lv_if_lt (tgt := 14) hx hb dX4_isPlace_1 (by decide) (fun hc => ?_) (fun hc => ?_)
  · have h := h.1 hc
    refine lv_iconst (v := (0 : Int32)) hx hb dX4_isPlace_14 (by decide) ?_
    exact x_zret E hH h rfl dX4_isPlace_15
  · have h := h.2 hc
    refine lv_iload_n hx hb dX4_isPlace_4 rfl (lv_at hl 0 rfl) ?_
    refine lv_bipush (v := (12 : Int32)) hx hb dX4_isPlace_5 (by decide) ?_
    refine lv_icmp_ge (tgt := 14) hx hb dX4_isPlace_7 (by decide) (fun hc => ?_) (fun hc => ?_)
    · have h := h.1 hc
      refine lv_iconst (v := (0 : Int32)) hx hb dX4_isPlace_14 (by decide) ?_
      exact x_zret E hH h rfl dX4_isPlace_15
    · have h := h.2 hc
      refine lv_iconst (v := (1 : Int32)) hx hb dX4_isPlace_10 (by decide) ?_
      refine lv_goto (tgt := 15) hx hb dX4_isPlace_11 (by decide) ?_
      exact x_zret E hH h rfl dX4_isPlace_15
set_option maxHeartbeats 4000000 in
set_option maxRecDepth 100000 in
theorem c_X4_look {l : Launch} {D : va_G} {cI cS cO : ClassId} {a : Nat → Nat} {C : MS} {x1 : Int32} {post : Int32 → MS → Prop} (h : w_X4_look post C x1) : MetX l D (tyW cI cS cO) yX4_look cX4_look 2 (some .int) 1 0 0 [.ref (a 0), .int x1] (wM cI cS a C) (QI D (wM cI cS a) post) := by
  refine x_ent (by decide) (Nat.le_of_ble_eq_true rfl) ?_
  intro p e s m below meth c ls E _ hH hl
  have hx := E.1
  have hb := E.2.1
  generalize va_A (wM cI cS a C) s.heap.size = A at hH ⊢
  have hl : lv_has ls 2 [(0, .ref (a 0)), (1, .int x1)] := hl
  unfold w_X4_look at h
  refine lv_iload_n hx hb dX4_look_0 rfl (lv_at hl 1 rfl) ?_
  refine x_ci (x_runS (As := [.int x1]) (rest := []) E (c_X4_isPlace h) yk_X4_isPlace yi_X4_isPlace km_X4_64 ⟨Nat.le_of_ble_eq_true rfl, Nat.le_of_ble_eq_true rfl⟩ ⟨Nat.le_of_ble_eq_true rfl, Nat.le_of_ble_eq_true rfl⟩ hH  hl.1 rfl rfl (lv_room (Nat.le_of_ble_eq_true rfl)) dX4_look_1) hH (fun r2 C1 H locs h hH => ?_)
  refine lv_if_ne (tgt := 11) hx hb dX4_look_4 (by decide) (fun hc => ?_) (fun hc => ?_)
  · have h := h.1 hc
    refine lv_aload_n hx hb dX4_look_11 rfl (lv_at hl 0 rfl) ?_
    refine x_get (ci := 4) (CN := RX4) (T := TX4) (N := 20) E in_X4 hH 0 wM_g0 rfl 8 (by decide) kf_X4_31 rfl dX4_look_12 ?_
    refine lv_iload_n hx hb dX4_look_15 rfl (lv_at hl 1 rfl) ?_
    obtain ⟨hi3, h⟩ := h
    refine x_iald E hH 6 0 wM_g8 rfl hi3 dX4_look_16 ?_
    refine lv_if_ne (tgt := 25) hx hb dX4_look_17 (by decide) (fun hc => ?_) (fun hc => ?_)
    · have h := h.1 hc
      refine lv_iconst (v := (0 : Int32)) hx hb dX4_look_25 (by decide) ?_
      exact x_iret E hH h dX4_look_26
    · have h := h.2 hc
      refine lv_bipush (v := (-2 : Int32)) hx hb dX4_look_20 (by decide) ?_
      refine lv_goto (tgt := 26) hx hb dX4_look_22 (by decide) ?_
      exact x_iret E hH h dX4_look_26
  · have h := h.2 hc
    refine lv_iconst (v := (-1 : Int32)) hx hb dX4_look_7 (by decide) ?_
    refine lv_goto (tgt := 26) hx hb dX4_look_8 (by decide) ?_
    exact x_iret E hH h dX4_look_26
set_option maxHeartbeats 4000000 in
set_option maxRecDepth 100000 in
theorem c_X4_size {l : Launch} {D : va_G} {cI cS cO : ClassId} {a : Nat → Nat} {C : MS} {x1 : Int32} {post : Int32 → MS → Prop} (h : w_X4_size post C x1) : MetX l D (tyW cI cS cO) yX4_size cX4_size 2 (some .int) 0 0 0 [.ref (a 0), .int x1] (wM cI cS a C) (QI D (wM cI cS a) post) := by
  refine x_ent (by decide) (Nat.le_of_ble_eq_true rfl) ?_
  intro p e s m below meth c ls E _ hH hl
  have hx := E.1
  have hb := E.2.1
  generalize va_A (wM cI cS a C) s.heap.size = A at hH ⊢
  have hl : lv_has ls 2 [(0, .ref (a 0)), (1, .int x1)] := hl
  unfold w_X4_size at h
  refine lv_aload_n hx hb dX4_size_0 rfl (lv_at hl 0 rfl) ?_
  refine x_get (ci := 4) (CN := RX4) (T := TX4) (N := 20) E in_X4 hH 0 wM_g0 rfl 8 (by decide) kf_X4_31 rfl dX4_size_1 ?_
  refine lv_iload_n hx hb dX4_size_4 rfl (lv_at hl 1 rfl) ?_
  obtain ⟨hi1, h⟩ := h
  refine x_iald E hH 6 0 wM_g8 rfl hi1 dX4_size_5 ?_
  refine lv_iconst (v := (1 : Int32)) hx hb dX4_size_6 (by decide) ?_
  refine lv_icmp_ne (tgt := 24) hx hb dX4_size_7 (by decide) (fun hc => ?_) (fun hc => ?_)
  · have h := h.1 hc
    refine lv_aload_n hx hb dX4_size_24 rfl (lv_at hl 0 rfl) ?_
    refine x_get (ci := 4) (CN := RX4) (T := TX4) (N := 20) E in_X4 hH 0 wM_g0 rfl 10 (by decide) kf_X4_37 rfl dX4_size_25 ?_
    refine lv_iload_n hx hb dX4_size_28 rfl (lv_at hl 1 rfl) ?_
    refine x_iald E hH 8 0 wM_g10 rfl hi1 dX4_size_29 ?_
    exact x_iret E hH h dX4_size_30
  · have h := h.2 hc
    refine lv_aload_n hx hb dX4_size_10 rfl (lv_at hl 0 rfl) ?_
    refine x_get (ci := 4) (CN := RX4) (T := TX4) (N := 20) E in_X4 hH 0 wM_g0 rfl 2 (by decide) kf_X4_17 rfl dX4_size_11 ?_
    refine lv_aload_n hx hb dX4_size_14 rfl (lv_at hl 0 rfl) ?_
    refine x_get (ci := 4) (CN := RX4) (T := TX4) (N := 20) E in_X4 hH 0 wM_g0 rfl 9 (by decide) kf_X4_34 rfl dX4_size_15 ?_
    refine lv_iload_n hx hb dX4_size_18 rfl (lv_at hl 1 rfl) ?_
    refine x_iald E hH 7 0 wM_g9 rfl hi1 dX4_size_19 ?_
    obtain ⟨hi2, h⟩ := h
    refine x_iald E hH 2 0 wM_g2 rfl hi2 dX4_size_20 ?_
    refine lv_goto (tgt := 30) hx hb dX4_size_21 (by decide) ?_
    exact x_iret E hH h dX4_size_30
set_option maxHeartbeats 4000000 in
set_option maxRecDepth 100000 in
theorem c_X4_valueAt {l : Launch} {D : va_G} {cI cS cO : ClassId} {a : Nat → Nat} {C : MS} {x1 : Int32} {x2 : Int32} {post : Int32 → MS → Prop} (h : w_X4_valueAt post C x1 x2) : MetX l D (tyW cI cS cO) yX4_valueAt cX4_valueAt 3 (some .int) 0 0 0 [.ref (a 0), .int x1, .int x2] (wM cI cS a C) (QI D (wM cI cS a) post) := by
  refine x_ent (by decide) (Nat.le_of_ble_eq_true rfl) ?_
  intro p e s m below meth c ls E _ hH hl
  have hx := E.1
  have hb := E.2.1
  generalize va_A (wM cI cS a C) s.heap.size = A at hH ⊢
  have hl : lv_has ls 3 [(0, .ref (a 0)), (1, .int x1), (2, .int x2)] := hl
  unfold w_X4_valueAt at h
  refine lv_aload_n hx hb dX4_valueAt_0 rfl (lv_at hl 0 rfl) ?_
  refine x_get (ci := 4) (CN := RX4) (T := TX4) (N := 20) E in_X4 hH 0 wM_g0 rfl 8 (by decide) kf_X4_31 rfl dX4_valueAt_1 ?_
  refine lv_iload_n hx hb dX4_valueAt_4 rfl (lv_at hl 1 rfl) ?_
  obtain ⟨hi1, h⟩ := h
  refine x_iald E hH 6 0 wM_g8 rfl hi1 dX4_valueAt_5 ?_
  refine lv_iconst (v := (1 : Int32)) hx hb dX4_valueAt_6 (by decide) ?_
  refine lv_icmp_ne (tgt := 31) hx hb dX4_valueAt_7 (by decide) (fun hc => ?_) (fun hc => ?_)
  · have h := h.1 hc
    refine lv_aload_n hx hb dX4_valueAt_31 rfl (lv_at hl 0 rfl) ?_
    refine x_get (ci := 4) (CN := RX4) (T := TX4) (N := 20) E in_X4 hH 0 wM_g0 rfl 11 (by decide) kf_X4_40 rfl dX4_valueAt_32 ?_
    refine lv_sipush (v := (400 : Int32)) hx hb dX4_valueAt_35 (by decide) ?_
    refine lv_iload_n hx hb dX4_valueAt_38 rfl (lv_at hl 1 rfl) ?_
    refine lv_imul hx hb dX4_valueAt_39 ?_
    refine lv_iload_n hx hb dX4_valueAt_40 rfl (lv_at hl 2 rfl) ?_
    refine lv_iadd hx hb dX4_valueAt_41 ?_
    obtain ⟨hi2, h⟩ := h
    refine x_iald E hH 9 0 wM_g11 rfl hi2 dX4_valueAt_42 ?_
    exact x_iret E hH h dX4_valueAt_43
  · have h := h.2 hc
    refine lv_aload_n hx hb dX4_valueAt_10 rfl (lv_at hl 0 rfl) ?_
    refine x_get (ci := 4) (CN := RX4) (T := TX4) (N := 20) E in_X4 hH 0 wM_g0 rfl 4 (by decide) kf_X4_24 rfl dX4_valueAt_11 ?_
    refine lv_aload_n hx hb dX4_valueAt_14 rfl (lv_at hl 0 rfl) ?_
    refine x_get (ci := 4) (CN := RX4) (T := TX4) (N := 20) E in_X4 hH 0 wM_g0 rfl 1 (by decide) kf_X4_13 rfl dX4_valueAt_15 ?_
    refine lv_aload_n hx hb dX4_valueAt_18 rfl (lv_at hl 0 rfl) ?_
    refine x_get (ci := 4) (CN := RX4) (T := TX4) (N := 20) E in_X4 hH 0 wM_g0 rfl 9 (by decide) kf_X4_34 rfl dX4_valueAt_19 ?_
    refine lv_iload_n hx hb dX4_valueAt_22 rfl (lv_at hl 1 rfl) ?_
    refine x_iald E hH 7 0 wM_g9 rfl hi1 dX4_valueAt_23 ?_
    obtain ⟨hi3, h⟩ := h
    refine x_iald E hH 1 0 wM_g1 rfl hi3 dX4_valueAt_24 ?_
    refine lv_iload_n hx hb dX4_valueAt_25 rfl (lv_at hl 2 rfl) ?_
    refine lv_iadd hx hb dX4_valueAt_26 ?_
    obtain ⟨hi4, h⟩ := h
    refine x_sald E hH 4 1 wM_g4 rfl hi4 dX4_valueAt_27 ?_
    refine lv_goto (tgt := 43) hx hb dX4_valueAt_28 (by decide) ?_
    exact x_iret E hH h dX4_valueAt_43
set_option maxHeartbeats 4000000 in
set_option maxRecDepth 100000 in
theorem c_X4_weightAt {l : Launch} {D : va_G} {cI cS cO : ClassId} {a : Nat → Nat} {C : MS} {x1 : Int32} {x2 : Int32} {post : Int32 → MS → Prop} (h : w_X4_weightAt post C x1 x2) : MetX l D (tyW cI cS cO) yX4_weightAt cX4_weightAt 3 (some .int) 0 0 0 [.ref (a 0), .int x1, .int x2] (wM cI cS a C) (QI D (wM cI cS a) post) := by
  refine x_ent (by decide) (Nat.le_of_ble_eq_true rfl) ?_
  intro p e s m below meth c ls E _ hH hl
  have hx := E.1
  have hb := E.2.1
  generalize va_A (wM cI cS a C) s.heap.size = A at hH ⊢
  have hl : lv_has ls 3 [(0, .ref (a 0)), (1, .int x1), (2, .int x2)] := hl
  unfold w_X4_weightAt at h
  refine lv_aload_n hx hb dX4_weightAt_0 rfl (lv_at hl 0 rfl) ?_
  refine x_get (ci := 4) (CN := RX4) (T := TX4) (N := 20) E in_X4 hH 0 wM_g0 rfl 8 (by decide) kf_X4_31 rfl dX4_weightAt_1 ?_
  refine lv_iload_n hx hb dX4_weightAt_4 rfl (lv_at hl 1 rfl) ?_
  obtain ⟨hi1, h⟩ := h
  refine x_iald E hH 6 0 wM_g8 rfl hi1 dX4_weightAt_5 ?_
  refine lv_iconst (v := (1 : Int32)) hx hb dX4_weightAt_6 (by decide) ?_
  refine lv_icmp_ne (tgt := 31) hx hb dX4_weightAt_7 (by decide) (fun hc => ?_) (fun hc => ?_)
  · have h := h.1 hc
    refine lv_aload_n hx hb dX4_weightAt_31 rfl (lv_at hl 0 rfl) ?_
    refine x_get (ci := 4) (CN := RX4) (T := TX4) (N := 20) E in_X4 hH 0 wM_g0 rfl 12 (by decide) kf_X4_43 rfl dX4_weightAt_32 ?_
    refine lv_sipush (v := (400 : Int32)) hx hb dX4_weightAt_35 (by decide) ?_
    refine lv_iload_n hx hb dX4_weightAt_38 rfl (lv_at hl 1 rfl) ?_
    refine lv_imul hx hb dX4_weightAt_39 ?_
    refine lv_iload_n hx hb dX4_weightAt_40 rfl (lv_at hl 2 rfl) ?_
    refine lv_iadd hx hb dX4_weightAt_41 ?_
    obtain ⟨hi2, h⟩ := h
    refine x_iald E hH 10 0 wM_g12 rfl hi2 dX4_weightAt_42 ?_
    exact x_iret E hH h dX4_weightAt_43
  · have h := h.2 hc
    refine lv_aload_n hx hb dX4_weightAt_10 rfl (lv_at hl 0 rfl) ?_
    refine x_get (ci := 4) (CN := RX4) (T := TX4) (N := 20) E in_X4 hH 0 wM_g0 rfl 5 (by decide) kf_X4_28 rfl dX4_weightAt_11 ?_
    refine lv_aload_n hx hb dX4_weightAt_14 rfl (lv_at hl 0 rfl) ?_
    refine x_get (ci := 4) (CN := RX4) (T := TX4) (N := 20) E in_X4 hH 0 wM_g0 rfl 1 (by decide) kf_X4_13 rfl dX4_weightAt_15 ?_
    refine lv_aload_n hx hb dX4_weightAt_18 rfl (lv_at hl 0 rfl) ?_
    refine x_get (ci := 4) (CN := RX4) (T := TX4) (N := 20) E in_X4 hH 0 wM_g0 rfl 9 (by decide) kf_X4_34 rfl dX4_weightAt_19 ?_
    refine lv_iload_n hx hb dX4_weightAt_22 rfl (lv_at hl 1 rfl) ?_
    refine x_iald E hH 7 0 wM_g9 rfl hi1 dX4_weightAt_23 ?_
    obtain ⟨hi3, h⟩ := h
    refine x_iald E hH 1 0 wM_g1 rfl hi3 dX4_weightAt_24 ?_
    refine lv_iload_n hx hb dX4_weightAt_25 rfl (lv_at hl 2 rfl) ?_
    refine lv_iadd hx hb dX4_weightAt_26 ?_
    obtain ⟨hi4, h⟩ := h
    refine x_iald E hH 5 0 wM_g5 rfl hi4 dX4_weightAt_27 ?_
    refine lv_goto (tgt := 43) hx hb dX4_weightAt_28 (by decide) ?_
    exact x_iret E hH h dX4_weightAt_43
set_option maxHeartbeats 4000000 in
set_option maxRecDepth 100000 in
theorem c_X4_span {l : Launch} {D : va_G} {cI cS cO : ClassId} {a : Nat → Nat} {C : MS} {x1 : Int32} {y2 : Int64} {y4 : Int64} {post : Int32 → MS → Prop} (h : w_X4_span post C x1 y2 y4) : MetX l D (tyW cI cS cO) yX4_span cX4_span 6 (some .int) 1 0 0 [.ref (a 0), .int x1, .long y2, .long y4] (wM cI cS a C) (QI D (wM cI cS a) post) := by
  refine x_ent (by decide) (Nat.le_of_ble_eq_true rfl) ?_
  intro p e s m below meth c ls E _ hH hl
  have hx := E.1
  have hb := E.2.1
  generalize va_A (wM cI cS a C) s.heap.size = A at hH ⊢
  have hl : lv_has ls 6 [(0, .ref (a 0)), (1, .int x1), (2, .long y2), (4, .long y4)] := hl
  unfold w_X4_span at h
  refine lv_lload hx hb dX4_span_0 (lv_at hl 3 rfl) ?_
  refine lv_lload_n hx hb dX4_span_2 rfl (lv_at hl 2 rfl) ?_
  refine W.lcmp hx hb dX4_span_3 ?_
  refine lv_if_ge (tgt := 12) hx hb dX4_span_4 (by decide) (fun hc => ?_) (fun hc => ?_)
  · have h := h.1 hc
    refine lv_lload_n hx hb dX4_span_12 rfl (lv_at hl 2 rfl) ?_
    refine lv_lconst (v := (0 : Int64)) hx hb dX4_span_13 (by decide) ?_
    refine W.lcmp hx hb dX4_span_14 ?_
    refine lv_if_lt (tgt := 30) hx hb dX4_span_15 (by decide) (fun hc => ?_) (fun hc => ?_)
    · have h := h.1 hc
      refine lv_iconst (v := (-1 : Int32)) hx hb dX4_span_30 (by decide) ?_
      refine lv_goto (tgt := 35) hx hb dX4_span_31 (by decide) ?_
      exact x_iret E hH h dX4_span_35
    · have h := h.2 hc
      refine lv_lload hx hb dX4_span_18 (lv_at hl 3 rfl) ?_
      refine lv_aload_n hx hb dX4_span_20 rfl (lv_at hl 0 rfl) ?_
      refine lv_iload_n hx hb dX4_span_21 rfl (lv_at hl 1 rfl) ?_
      refine x_ci (x_runV (As := [.int x1]) (rest := [.long y4]) E (c_X4_size h) yk_X4_size yi_X4_size km_X4_68 ⟨Nat.le_of_ble_eq_true rfl, Nat.le_of_ble_eq_true rfl⟩ ⟨Nat.le_of_ble_eq_true rfl, Nat.le_of_ble_eq_true rfl⟩ hH (va_recv E.2.2.2.2.2.1 hH.1 (ci := 4) (q0 := 0) rfl wM_g0) hl.1 rfl rfl (lv_room (Nat.le_of_ble_eq_true rfl)) dX4_span_22) hH (fun r2 C1 H locs h hH => ?_)
      refine lv_i2l hx hb dX4_span_25 rfl ?_
      refine W.lcmp hx hb dX4_span_26 ?_
      refine lv_if_le (tgt := 34) hx hb dX4_span_27 (by decide) (fun hc => ?_) (fun hc => ?_)
      · have h := h.1 hc
        refine lv_iconst (v := (0 : Int32)) hx hb dX4_span_34 (by decide) ?_
        exact x_iret E hH h dX4_span_35
      · have h := h.2 hc
        refine lv_iconst (v := (-1 : Int32)) hx hb dX4_span_30 (by decide) ?_
        refine lv_goto (tgt := 35) hx hb dX4_span_31 (by decide) ?_
        exact x_iret E hH h dX4_span_35
  · have h := h.2 hc
    refine lv_bipush (v := (-4 : Int32)) hx hb dX4_span_7 (by decide) ?_
    refine lv_goto (tgt := 35) hx hb dX4_span_9 (by decide) ?_
    exact x_iret E hH h dX4_span_35
set_option maxHeartbeats 4000000 in
set_option maxRecDepth 100000 in
theorem c_X4_lookSpan {l : Launch} {D : va_G} {cI cS cO : ClassId} {a : Nat → Nat} {C : MS} {x1 : Int32} {x2 : Int32} {x3 : Int32} {post : Int32 → MS → Prop} (h : w_X4_lookSpan post C x1 x2 x3) : MetX l D (tyW cI cS cO) yX4_lookSpan cX4_lookSpan 5 (some .int) 2 0 0 [.ref (a 0), .int x1, .int x2, .int x3] (wM cI cS a C) (QI D (wM cI cS a) post) := by
  refine x_ent (by decide) (Nat.le_of_ble_eq_true rfl) ?_
  intro p e s m below meth c ls E _ hH hl
  have hx := E.1
  have hb := E.2.1
  generalize va_A (wM cI cS a C) s.heap.size = A at hH ⊢
  have hl : lv_has ls 5 [(0, .ref (a 0)), (1, .int x1), (2, .int x2), (3, .int x3)] := hl
  unfold w_X4_lookSpan at h
  refine lv_aload_n hx hb dX4_lookSpan_0 rfl (lv_at hl 0 rfl) ?_
  refine lv_iload_n hx hb dX4_lookSpan_1 rfl (lv_at hl 1 rfl) ?_
  refine x_ci (x_runV (As := [.int x1]) (rest := []) E (c_X4_look h) yk_X4_look yi_X4_look km_X4_72 ⟨Nat.le_of_ble_eq_true rfl, Nat.le_of_ble_eq_true rfl⟩ ⟨Nat.le_of_ble_eq_true rfl, Nat.le_of_ble_eq_true rfl⟩ hH (va_recv E.2.2.2.2.2.1 hH.1 (ci := 4) (q0 := 0) rfl wM_g0) hl.1 rfl rfl (lv_room (Nat.le_of_ble_eq_true rfl)) dX4_lookSpan_2) hH (fun r2 C1 H locs h hH => ?_)
  refine lv_istore (lv' := [(4, .int r2), (0, .ref (a 0)), (1, .int x1), (2, .int x2), (3, .int x3)]) hx hb dX4_lookSpan_5 hl (by decide) rfl (fun ls hl => ?_)
  refine lv_iload hx hb dX4_lookSpan_7 (lv_at hl 0 rfl) ?_
  refine lv_if_ge (tgt := 17) hx hb dX4_lookSpan_9 (by decide) (fun hc => ?_) (fun hc => ?_)
  · have h := h.1 hc
    refine lv_aload_n hx hb dX4_lookSpan_17 rfl (lv_at hl 1 rfl) ?_
    refine lv_iload_n hx hb dX4_lookSpan_18 rfl (lv_at hl 2 rfl) ?_
    refine lv_iload_n hx hb dX4_lookSpan_19 rfl (lv_at hl 3 rfl) ?_
    refine lv_i2l hx hb dX4_lookSpan_20 rfl ?_
    refine lv_iload_n hx hb dX4_lookSpan_21 rfl (lv_at hl 4 rfl) ?_
    refine lv_i2l hx hb dX4_lookSpan_22 rfl ?_
    refine x_ci (x_runV (As := [.int x1, .long (Int32.toInt64 x2), .long (Int32.toInt64 x3)]) (rest := []) E (c_X4_span h) yk_X4_span yi_X4_span km_X4_75 ⟨Nat.le_of_ble_eq_true rfl, Nat.le_of_ble_eq_true rfl⟩ ⟨Nat.le_of_ble_eq_true rfl, Nat.le_of_ble_eq_true rfl⟩ hH (va_recv E.2.2.2.2.2.1 hH.1 (ci := 4) (q0 := 0) rfl wM_g0) hl.1 rfl rfl (lv_room (Nat.le_of_ble_eq_true rfl)) dX4_lookSpan_23) hH (fun r4 C3 H locs h hH => ?_)
    exact x_iret E hH h dX4_lookSpan_26
  · have h := h.2 hc
    refine lv_iload hx hb dX4_lookSpan_12 (lv_at hl 0 rfl) ?_
    refine lv_goto (tgt := 26) hx hb dX4_lookSpan_14 (by decide) ?_
    exact x_iret E hH h dX4_lookSpan_26
set_option maxHeartbeats 4000000 in
set_option maxRecDepth 100000 in
theorem c_X4_add {l : Launch} {D : va_G} {cI cS cO : ClassId} {a : Nat → Nat} {C : MS} {x1 : Int32} {x2 : Int32} {post : MS → Prop} (h : w_X4_add post C x1 x2) : MetX l D (tyW cI cS cO) yX4_add cX4_add 3 none 0 0 0 [.ref (a 0), .int x1, .int x2] (wM cI cS a C) (QV D (wM cI cS a) post) := by
  refine x_ent (by decide) (Nat.le_of_ble_eq_true rfl) ?_
  intro p e s m below meth c ls E _ hH hl
  have hx := E.1
  have hb := E.2.1
  generalize va_A (wM cI cS a C) s.heap.size = A at hH ⊢
  have hl : lv_has ls 3 [(0, .ref (a 0)), (1, .int x1), (2, .int x2)] := hl
  unfold w_X4_add at h
  refine lv_aload_n hx hb dX4_add_0 rfl (lv_at hl 0 rfl) ?_
  refine x_get (ci := 4) (CN := RX4) (T := TX4) (N := 20) E in_X4 hH 0 wM_g0 rfl 4 (by decide) kf_X4_24 rfl dX4_add_1 ?_
  refine lv_aload_n hx hb dX4_add_4 rfl (lv_at hl 0 rfl) ?_
  refine x_get (ci := 4) (CN := RX4) (T := TX4) (N := 20) E in_X4 hH 0 wM_g0 rfl 6 (by decide) kf_X4_79 rfl dX4_add_5 ?_
  refine lv_iload_n hx hb dX4_add_8 rfl (lv_at hl 1 rfl) ?_
  refine lv_i2s hx hb dX4_add_9 rfl ?_
  obtain ⟨hi1, h⟩ := h
  refine x_sast E hH 4 1 wM_g4 rfl hi1 wM_s4 dX4_add_10 (fun H locs hH => ?_)
  refine lv_aload_n hx hb dX4_add_11 rfl (lv_at hl 0 rfl) ?_
  refine x_get (ci := 4) (CN := RX4) (T := TX4) (N := 20) E in_X4 hH 0 wM_g0 rfl 5 (by decide) kf_X4_28 rfl dX4_add_12 ?_
  refine lv_aload_n hx hb dX4_add_15 rfl (lv_at hl 0 rfl) ?_
  refine x_get (ci := 4) (CN := RX4) (T := TX4) (N := 20) E in_X4 hH 0 wM_g0 rfl 6 (by decide) kf_X4_79 rfl dX4_add_16 ?_
  refine lv_iload_n hx hb dX4_add_19 rfl (lv_at hl 2 rfl) ?_
  refine x_iast E hH 5 0 wM_g5 rfl hi1 wM_s5 dX4_add_20 (fun H locs hH => ?_)
  refine lv_aload_n hx hb dX4_add_21 rfl (lv_at hl 0 rfl) ?_
  refine lv_dup hx hb dX4_add_22 rfl ?_
  refine x_get (ci := 4) (CN := RX4) (T := TX4) (N := 20) E in_X4 hH 0 wM_g0 rfl 6 (by decide) kf_X4_79 rfl dX4_add_23 ?_
  refine lv_iconst (v := (1 : Int32)) hx hb dX4_add_26 (by decide) ?_
  refine lv_iadd hx hb dX4_add_27 ?_
  refine x_puti (ci := 4) (CN := RX4) (T := TX4) (N := 20) E in_X4 tyX4 tyX4_ok nmX4 hH 0 wM_g0 rfl 6 (by decide) kf_X4_79 rfl (by decide +kernel) (Nat.le_of_ble_eq_true rfl) wM_z6 dX4_add_28 (fun H locs hH => ?_)
  exact x_vret E hH h dX4_add_31
set_option maxHeartbeats 4000000 in
set_option maxRecDepth 100000 in
theorem k_X4_begin_35b {post : Int32 → MS → Prop} (E : Cx p s m args meth c cX4_begin 5 RX4 (some .int) D (tyW cI cS cO))  {K35 : MS → Int32 → Int32 → Int32 → Int32 → Prop} (hK35 : ∀ (C : MS) (x1 : Int32) (x2 : Int32) (x3 : Int32) (x4 : Int32) (H : Heap) (locs : List Loc) (ls : Array Slot), HX D (wM cI cS a C) A s.heap H locs → lv_has ls 5 [(0, .ref (a 0)), (1, .int x1), (2, .int x2), (3, .int x3), (4, .int x4)] → K35 C x1 x2 x3 x4 → W p l e (rmA 1 0 0) s m args below meth c H locs 0 0 (MQ below ((QI D (wM cI cS a) post) A) args s 0 0 A) (F0 m 35 ls [])) {C : MS} {x1 : Int32} {x2 : Int32} {x3 : Int32} {x4 : Int32} {H : Heap} {locs : List Loc} {ls : Array Slot} (hH : HX D (wM cI cS a C) A s.heap H locs) (hl : lv_has ls 5 [(0, .ref (a 0)), (1, .int x1), (2, .int x2), (3, .int x3), (4, .int x4)]) (h : w_X4_begin_35b post K35 C x1 x2 x3 x4) : W p l e (rmA 1 0 0) s m args below meth c H locs 0 0 (MQ below ((QI D (wM cI cS a) post) A) args s 0 0 A) (F0 m 35 ls []) := by
  have hx := E.1
  have hb := E.2.1
  unfold w_X4_begin_35b at h
  refine lv_iload hx hb dX4_begin_35 (lv_at hl 4 rfl) ?_
  refine lv_iload_n hx hb dX4_begin_37 rfl (lv_at hl 2 rfl) ?_
  refine lv_icmp_ge (tgt := 79) hx hb dX4_begin_38 (by decide) (fun hc => ?_) (fun hc => ?_)
  · have h := h.1 hc
    refine lv_iload_n hx hb dX4_begin_79 rfl (lv_at hl 3 rfl) ?_
    exact x_iret E hH h dX4_begin_80
  · have h := h.2 hc
    refine lv_aload_n hx hb dX4_begin_41 rfl (lv_at hl 0 rfl) ?_
    refine lv_aload_n hx hb dX4_begin_42 rfl (lv_at hl 0 rfl) ?_
    refine x_get (ci := 4) (CN := RX4) (T := TX4) (N := 20) E in_X4 hH 0 wM_g0 rfl 4 (by decide) kf_X4_24 rfl dX4_begin_43 ?_
    refine lv_aload_n hx hb dX4_begin_46 rfl (lv_at hl 0 rfl) ?_
    refine x_get (ci := 4) (CN := RX4) (T := TX4) (N := 20) E in_X4 hH 0 wM_g0 rfl 1 (by decide) kf_X4_13 rfl dX4_begin_47 ?_
    refine lv_iload_n hx hb dX4_begin_50 rfl (lv_at hl 1 rfl) ?_
    obtain ⟨hi3, h⟩ := h
    refine x_iald E hH 1 0 wM_g1 rfl hi3 dX4_begin_51 ?_
    refine lv_iload hx hb dX4_begin_52 (lv_at hl 4 rfl) ?_
    refine lv_iadd hx hb dX4_begin_54 ?_
    obtain ⟨hi4, h⟩ := h
    refine x_sald E hH 4 1 wM_g4 rfl hi4 dX4_begin_55 ?_
    refine lv_aload_n hx hb dX4_begin_56 rfl (lv_at hl 0 rfl) ?_
    refine x_get (ci := 4) (CN := RX4) (T := TX4) (N := 20) E in_X4 hH 0 wM_g0 rfl 5 (by decide) kf_X4_28 rfl dX4_begin_57 ?_
    refine lv_aload_n hx hb dX4_begin_60 rfl (lv_at hl 0 rfl) ?_
    refine x_get (ci := 4) (CN := RX4) (T := TX4) (N := 20) E in_X4 hH 0 wM_g0 rfl 1 (by decide) kf_X4_13 rfl dX4_begin_61 ?_
    refine lv_iload_n hx hb dX4_begin_64 rfl (lv_at hl 1 rfl) ?_
    refine x_iald E hH 1 0 wM_g1 rfl hi3 dX4_begin_65 ?_
    refine lv_iload hx hb dX4_begin_66 (lv_at hl 4 rfl) ?_
    refine lv_iadd hx hb dX4_begin_68 ?_
    refine x_iald E hH 5 0 wM_g5 rfl hi4 dX4_begin_69 ?_
    refine x_cv (x_runV (As := [.int ((mr C 4) (Int32.toNatClampNeg (((mr C 1) (Int32.toNatClampNeg x1)) + x4))), .int ((mr C 5) (Int32.toNatClampNeg (((mr C 1) (Int32.toNatClampNeg x1)) + x4)))]) (rest := []) E (c_X4_add h) yk_X4_add yi_X4_add km_X4_82 ⟨Nat.le_of_ble_eq_true rfl, Nat.le_of_ble_eq_true rfl⟩ ⟨Nat.le_of_ble_eq_true rfl, Nat.le_of_ble_eq_true rfl⟩ hH (va_recv E.2.2.2.2.2.1 hH.1 (ci := 4) (q0 := 0) rfl wM_g0) hl.1 rfl rfl (lv_room (Nat.le_of_ble_eq_true rfl)) dX4_begin_70) hH (fun C5 H locs h hH => ?_)
    refine lv_iinc (v := (x4 + 1)) (lv' := [(4, .int (x4 + 1)), (0, .ref (a 0)), (1, .int x1), (2, .int x2), (3, .int x3)]) hx hb dX4_begin_73 hl (k := 4) rfl rfl (by decide) rfl (fun ls hl => ?_)
    refine lv_goto (tgt := 35) hx hb dX4_begin_76 (by decide) ?_
    exact hK35 _ _ _ _ _ _ _ _ hH (lv_sub hl [1, 2, 3, 4, 0] rfl) h
theorem k_X4_begin_35 {post : Int32 → MS → Prop} (E : Cx p s m args meth c cX4_begin 5 RX4 (some .int) D (tyW cI cS cO))  (n : Nat) : ∀ {C : MS} {x1 : Int32} {x2 : Int32} {x3 : Int32} {x4 : Int32} {H : Heap} {locs : List Loc} {ls : Array Slot} (hH : HX D (wM cI cS a C) A s.heap H locs) (hl : lv_has ls 5 [(0, .ref (a 0)), (1, .int x1), (2, .int x2), (3, .int x3), (4, .int x4)]) (h : w_X4_begin_35 post n C x1 x2 x3 x4), W p l e (rmA 1 0 0) s m args below meth c H locs 0 0 (MQ below ((QI D (wM cI cS a) post) A) args s 0 0 A) (F0 m 35 ls []) := by
  induction n with
  | zero => intros; contradiction
  | succ n ih => intro C x1 x2 x3 x4 H locs ls hH hl h; exact k_X4_begin_35b E  (fun C x1 x2 x3 x4 H locs ls hH hl h => ih hH hl h) hH hl h
set_option maxHeartbeats 4000000 in
set_option maxRecDepth 100000 in
theorem c_X4_begin {l : Launch} {D : va_G} {cI cS cO : ClassId} {a : Nat → Nat} {C : MS} {x1 : Int32} {x2 : Int32} {post : Int32 → MS → Prop} (h : w_X4_begin post C x1 x2) : MetX l D (tyW cI cS cO) yX4_begin cX4_begin 5 (some .int) 1 0 0 [.ref (a 0), .int x1, .int x2] (wM cI cS a C) (QI D (wM cI cS a) post) := by
  refine x_ent (by decide) (Nat.le_of_ble_eq_true rfl) ?_
  intro p e s m below meth c ls E _ hH hl
  have hx := E.1
  have hb := E.2.1
  generalize va_A (wM cI cS a C) s.heap.size = A at hH ⊢
  have hl : lv_has ls 5 [(0, .ref (a 0)), (1, .int x1), (2, .int x2)] := hl
  unfold w_X4_begin at h
  refine lv_aload_n hx hb dX4_begin_0 rfl (lv_at hl 0 rfl) ?_
  refine x_get (ci := 4) (CN := RX4) (T := TX4) (N := 20) E in_X4 hH 0 wM_g0 rfl 0 (by decide) kf_X4_7 rfl dX4_begin_1 ?_
  refine lv_istore_n (lv' := [(3, .int (mz C 0)), (0, .ref (a 0)), (1, .int x1), (2, .int x2)]) hx hb dX4_begin_4 rfl hl (by decide) rfl (fun ls hl => ?_)
  refine lv_aload_n hx hb dX4_begin_5 rfl (lv_at hl 1 rfl) ?_
  refine lv_dup hx hb dX4_begin_6 rfl ?_
  refine x_get (ci := 4) (CN := RX4) (T := TX4) (N := 20) E in_X4 hH 0 wM_g0 rfl 0 (by decide) kf_X4_7 rfl dX4_begin_7 ?_
  refine lv_iconst (v := (1 : Int32)) hx hb dX4_begin_10 (by decide) ?_
  refine lv_iadd hx hb dX4_begin_11 ?_
  refine x_puti (ci := 4) (CN := RX4) (T := TX4) (N := 20) E in_X4 tyX4 tyX4_ok nmX4 hH 0 wM_g0 rfl 0 (by decide) kf_X4_7 rfl (by decide +kernel) (Nat.le_of_ble_eq_true rfl) wM_z0 dX4_begin_12 (fun H locs hH => ?_)
  refine lv_aload_n hx hb dX4_begin_15 rfl (lv_at hl 1 rfl) ?_
  refine x_get (ci := 4) (CN := RX4) (T := TX4) (N := 20) E in_X4 hH 0 wM_g0 rfl 3 (by decide) kf_X4_20 rfl dX4_begin_16 ?_
  refine lv_iload_n hx hb dX4_begin_19 rfl (lv_at hl 0 rfl) ?_
  refine lv_iload_n hx hb dX4_begin_20 rfl (lv_at hl 2 rfl) ?_
  obtain ⟨hi1, h⟩ := h
  refine x_iast E hH 3 0 wM_g3 rfl hi1 wM_s3 dX4_begin_21 (fun H locs hH => ?_)
  refine lv_aload_n hx hb dX4_begin_22 rfl (lv_at hl 1 rfl) ?_
  refine x_get (ci := 4) (CN := RX4) (T := TX4) (N := 20) E in_X4 hH 0 wM_g0 rfl 1 (by decide) kf_X4_13 rfl dX4_begin_23 ?_
  refine lv_iload_n hx hb dX4_begin_26 rfl (lv_at hl 0 rfl) ?_
  refine lv_aload_n hx hb dX4_begin_27 rfl (lv_at hl 1 rfl) ?_
  refine x_get (ci := 4) (CN := RX4) (T := TX4) (N := 20) E in_X4 hH 0 wM_g0 rfl 6 (by decide) kf_X4_79 rfl dX4_begin_28 ?_
  refine x_iast E hH 1 0 wM_g1 rfl hi1 wM_s1 dX4_begin_31 (fun H locs hH => ?_)
  refine lv_iconst (v := (0 : Int32)) hx hb dX4_begin_32 (by decide) ?_
  refine lv_istore (lv' := [(4, .int (0 : Int32)), (3, .int (mz C 0)), (0, .ref (a 0)), (1, .int x1), (2, .int x2)]) hx hb dX4_begin_33 hl (by decide) rfl (fun ls hl => ?_)
  obtain ⟨n, h⟩ := h
  exact k_X4_begin_35 E  n hH (lv_sub hl [2, 3, 4, 1, 0] rfl) h
set_option maxHeartbeats 4000000 in
set_option maxRecDepth 100000 in
theorem c_X4_finish {l : Launch} {D : va_G} {cI cS cO : ClassId} {a : Nat → Nat} {C : MS} {x1 : Int32} {x2 : Int32} {post : Int32 → MS → Prop} (h : w_X4_finish post C x1 x2) : MetX l D (tyW cI cS cO) yX4_finish cX4_finish 3 (some .int) 0 0 0 [.ref (a 0), .int x1, .int x2] (wM cI cS a C) (QI D (wM cI cS a) post) := by
  refine x_ent (by decide) (Nat.le_of_ble_eq_true rfl) ?_
  intro p e s m below meth c ls E _ hH hl
  have hx := E.1
  have hb := E.2.1
  generalize va_A (wM cI cS a C) s.heap.size = A at hH ⊢
  have hl : lv_has ls 3 [(0, .ref (a 0)), (1, .int x1), (2, .int x2)] := hl
  unfold w_X4_finish at h
  refine lv_aload_n hx hb dX4_finish_0 rfl (lv_at hl 0 rfl) ?_
  refine x_get (ci := 4) (CN := RX4) (T := TX4) (N := 20) E in_X4 hH 0 wM_g0 rfl 2 (by decide) kf_X4_17 rfl dX4_finish_1 ?_
  refine lv_iload_n hx hb dX4_finish_4 rfl (lv_at hl 1 rfl) ?_
  refine lv_aload_n hx hb dX4_finish_5 rfl (lv_at hl 0 rfl) ?_
  refine x_get (ci := 4) (CN := RX4) (T := TX4) (N := 20) E in_X4 hH 0 wM_g0 rfl 6 (by decide) kf_X4_79 rfl dX4_finish_6 ?_
  refine lv_aload_n hx hb dX4_finish_9 rfl (lv_at hl 0 rfl) ?_
  refine x_get (ci := 4) (CN := RX4) (T := TX4) (N := 20) E in_X4 hH 0 wM_g0 rfl 1 (by decide) kf_X4_13 rfl dX4_finish_10 ?_
  refine lv_iload_n hx hb dX4_finish_13 rfl (lv_at hl 1 rfl) ?_
  obtain ⟨hi1, h⟩ := h
  refine x_iald E hH 1 0 wM_g1 rfl hi1 dX4_finish_14 ?_
  refine lv_isub hx hb dX4_finish_15 ?_
  refine x_iast E hH 2 0 wM_g2 rfl hi1 wM_s2 dX4_finish_16 (fun H locs hH => ?_)
  refine lv_aload_n hx hb dX4_finish_17 rfl (lv_at hl 0 rfl) ?_
  refine x_get (ci := 4) (CN := RX4) (T := TX4) (N := 20) E in_X4 hH 0 wM_g0 rfl 8 (by decide) kf_X4_31 rfl dX4_finish_18 ?_
  refine lv_iload_n hx hb dX4_finish_21 rfl (lv_at hl 2 rfl) ?_
  refine lv_iconst (v := (1 : Int32)) hx hb dX4_finish_22 (by decide) ?_
  obtain ⟨hi2, h⟩ := h
  refine x_iast E hH 6 0 wM_g8 rfl hi2 wM_s8 dX4_finish_23 (fun H locs hH => ?_)
  refine lv_aload_n hx hb dX4_finish_24 rfl (lv_at hl 0 rfl) ?_
  refine x_get (ci := 4) (CN := RX4) (T := TX4) (N := 20) E in_X4 hH 0 wM_g0 rfl 9 (by decide) kf_X4_34 rfl dX4_finish_25 ?_
  refine lv_iload_n hx hb dX4_finish_28 rfl (lv_at hl 2 rfl) ?_
  refine lv_iload_n hx hb dX4_finish_29 rfl (lv_at hl 1 rfl) ?_
  refine x_iast E hH 7 0 wM_g9 rfl hi2 wM_s9 dX4_finish_30 (fun H locs hH => ?_)
  refine lv_iload_n hx hb dX4_finish_31 rfl (lv_at hl 1 rfl) ?_
  exact x_iret E hH h dX4_finish_32
set_option maxHeartbeats 4000000 in
set_option maxRecDepth 100000 in
theorem k_X4_push_97 {post : Int32 → MS → Prop} (E : Cx p s m args meth c cX4_push 7 RX4 (some .int) D (tyW cI cS cO))  {C : MS}  {H : Heap} {locs : List Loc} {ls : Array Slot} (hH : HX D (wM cI cS a C) A s.heap H locs) (hl : lv_has ls 7 [(0, .ref (a 0))]) (h : w_X4_push_97 post C ) : W p l e (rmA 2 0 0) s m args below meth c H locs 0 0 (MQ below ((QI D (wM cI cS a) post) A) args s 0 0 A) (F0 m 97 ls []) := by
  have hx := E.1
  have hb := E.2.1
  unfold w_X4_push_97 at h
  refine lv_aload_n hx hb dX4_push_97 rfl (lv_at hl 0 rfl) ?_
  refine lv_bipush (v := (-5 : Int32)) hx hb dX4_push_98 (by decide) ?_
  refine x_ci (x_runV (As := [.int (-5 : Int32)]) (rest := []) E (c_X4_answer h) yk_X4_answer yi_X4_answer km_X4_86 ⟨Nat.le_of_ble_eq_true rfl, Nat.le_of_ble_eq_true rfl⟩ ⟨Nat.le_of_ble_eq_true rfl, Nat.le_of_ble_eq_true rfl⟩ hH (va_recv E.2.2.2.2.2.1 hH.1 (ci := 4) (q0 := 0) rfl wM_g0) hl.1 rfl rfl (lv_room (Nat.le_of_ble_eq_true rfl)) dX4_push_100) hH (fun r19 C18 H locs h hH => ?_)
  exact x_iret E hH h dX4_push_103
set_option maxHeartbeats 4000000 in
set_option maxRecDepth 100000 in
theorem k_X4_push_58 {post : Int32 → MS → Prop} (E : Cx p s m args meth c cX4_push 7 RX4 (some .int) D (tyW cI cS cO))  {C : MS}  {H : Heap} {locs : List Loc} {ls : Array Slot} (hH : HX D (wM cI cS a C) A s.heap H locs) (hl : lv_has ls 7 [(0, .ref (a 0))]) (h : w_X4_push_58 post C ) : W p l e (rmA 2 0 0) s m args below meth c H locs 0 0 (MQ below ((QI D (wM cI cS a) post) A) args s 0 0 A) (F0 m 58 ls []) := by
  have hx := E.1
  have hb := E.2.1
  unfold w_X4_push_58 at h
  refine lv_aload_n hx hb dX4_push_58 rfl (lv_at hl 0 rfl) ?_
  refine lv_iconst (v := (-1 : Int32)) hx hb dX4_push_59 (by decide) ?_
  refine x_ci (x_runV (As := [.int (-1 : Int32)]) (rest := []) E (c_X4_answer h) yk_X4_answer yi_X4_answer km_X4_86 ⟨Nat.le_of_ble_eq_true rfl, Nat.le_of_ble_eq_true rfl⟩ ⟨Nat.le_of_ble_eq_true rfl, Nat.le_of_ble_eq_true rfl⟩ hH (va_recv E.2.2.2.2.2.1 hH.1 (ci := 4) (q0 := 0) rfl wM_g0) hl.1 rfl rfl (lv_room (Nat.le_of_ble_eq_true rfl)) dX4_push_60) hH (fun r17 C16 H locs h hH => ?_)
  exact x_iret E hH h dX4_push_63
set_option maxHeartbeats 4000000 in
set_option maxRecDepth 100000 in
theorem k_X4_push_35 {post : Int32 → MS → Prop} (E : Cx p s m args meth c cX4_push 7 RX4 (some .int) D (tyW cI cS cO))  {C : MS} {s0 : Int32} {H : Heap} {locs : List Loc} {ls : Array Slot} (hH : HX D (wM cI cS a C) A s.heap H locs) (hl : lv_has ls 7 []) (h : w_X4_push_35 post C s0) : W p l e (rmA 2 0 0) s m args below meth c H locs 0 0 (MQ below ((QI D (wM cI cS a) post) A) args s 0 0 A) (F0 m 35 ls [.int s0, .ref (a 0)]) := by
  have hx := E.1
  have hb := E.2.1
  unfold w_X4_push_35 at h
  refine x_ci (x_runV (As := [.int s0]) (rest := []) E (c_X4_answer h) yk_X4_answer yi_X4_answer km_X4_86 ⟨Nat.le_of_ble_eq_true rfl, Nat.le_of_ble_eq_true rfl⟩ ⟨Nat.le_of_ble_eq_true rfl, Nat.le_of_ble_eq_true rfl⟩ hH (va_recv E.2.2.2.2.2.1 hH.1 (ci := 4) (q0 := 0) rfl wM_g0) hl.1 rfl rfl (lv_room (Nat.le_of_ble_eq_true rfl)) dX4_push_35) hH (fun r21 C20 H locs h hH => ?_)
  exact x_iret E hH h dX4_push_38
set_option maxHeartbeats 4000000 in
set_option maxRecDepth 100000 in
theorem k_X4_push_22 {post : Int32 → MS → Prop} (E : Cx p s m args meth c cX4_push 7 RX4 (some .int) D (tyW cI cS cO))  {C : MS} {x5 : Int32} {H : Heap} {locs : List Loc} {ls : Array Slot} (hH : HX D (wM cI cS a C) A s.heap H locs) (hl : lv_has ls 7 [(0, .ref (a 0)), (5, .int x5)]) (h : w_X4_push_22 post C x5) : W p l e (rmA 2 0 0) s m args below meth c H locs 0 0 (MQ below ((QI D (wM cI cS a) post) A) args s 0 0 A) (F0 m 22 ls []) := by
  have hx := E.1
  have hb := E.2.1
  unfold w_X4_push_22 at h
  refine lv_aload_n hx hb dX4_push_22 rfl (lv_at hl 0 rfl) ?_
  refine lv_iload hx hb dX4_push_23 (lv_at hl 1 rfl) ?_
  refine lv_if_ge (tgt := 33) hx hb dX4_push_25 (by decide) (fun hc => ?_) (fun hc => ?_)
  · have h := h.1 hc
    refine lv_bipush (v := (-3 : Int32)) hx hb dX4_push_33 (by decide) ?_
    exact k_X4_push_35 E  hH (lv_sub hl [] rfl) h
  · have h := h.2 hc
    refine lv_iload hx hb dX4_push_28 (lv_at hl 1 rfl) ?_
    refine lv_goto (tgt := 35) hx hb dX4_push_30 (by decide) ?_
    exact k_X4_push_35 E  hH (lv_sub hl [] rfl) h
set_option maxHeartbeats 4000000 in
set_option maxRecDepth 100000 in
theorem c_X4_push {l : Launch} {D : va_G} {cI cS cO : ClassId} {a : Nat → Nat} {C : MS} {x1 : Int32} {x2 : Int32} {x3 : Int32} {x4 : Int32} {post : Int32 → MS → Prop} (h : w_X4_push post C x1 x2 x3 x4) : MetX l D (tyW cI cS cO) yX4_push cX4_push 7 (some .int) 2 0 0 [.ref (a 0), .int x1, .int x2, .int x3, .int x4] (wM cI cS a C) (QI D (wM cI cS a) post) := by
  refine x_ent (by decide) (Nat.le_of_ble_eq_true rfl) ?_
  intro p e s m below meth c ls E _ hH hl
  have hx := E.1
  have hb := E.2.1
  generalize va_A (wM cI cS a C) s.heap.size = A at hH ⊢
  have hl : lv_has ls 7 [(0, .ref (a 0)), (1, .int x1), (2, .int x2), (3, .int x3), (4, .int x4)] := hl
  unfold w_X4_push at h
  refine lv_aload_n hx hb dX4_push_0 rfl (lv_at hl 0 rfl) ?_
  refine lv_iload_n hx hb dX4_push_1 rfl (lv_at hl 1 rfl) ?_
  refine x_ci (x_runV (As := [.int x1]) (rest := []) E (c_X4_look h) yk_X4_look yi_X4_look km_X4_72 ⟨Nat.le_of_ble_eq_true rfl, Nat.le_of_ble_eq_true rfl⟩ ⟨Nat.le_of_ble_eq_true rfl, Nat.le_of_ble_eq_true rfl⟩ hH (va_recv E.2.2.2.2.2.1 hH.1 (ci := 4) (q0 := 0) rfl wM_g0) hl.1 rfl rfl (lv_room (Nat.le_of_ble_eq_true rfl)) dX4_push_2) hH (fun r2 C1 H locs h hH => ?_)
  refine lv_istore (lv' := [(5, .int r2), (0, .ref (a 0)), (1, .int x1), (2, .int x2), (3, .int x3), (4, .int x4)]) hx hb dX4_push_5 hl (by decide) rfl (fun ls hl => ?_)
  refine lv_iload hx hb dX4_push_7 (lv_at hl 0 rfl) ?_
  refine lv_if_lt (tgt := 22) hx hb dX4_push_9 (by decide) (fun hc => ?_) (fun hc => ?_)
  · have h := h.1 hc
    exact k_X4_push_22 E  hH (lv_sub hl [1, 0] rfl) h
  · have h := h.2 hc
    refine lv_aload_n hx hb dX4_push_12 rfl (lv_at hl 1 rfl) ?_
    refine x_get (ci := 4) (CN := RX4) (T := TX4) (N := 20) E in_X4 hH 0 wM_g0 rfl 8 (by decide) kf_X4_31 rfl dX4_push_13 ?_
    refine lv_iload_n hx hb dX4_push_16 rfl (lv_at hl 2 rfl) ?_
    obtain ⟨hi3, h⟩ := h
    refine x_iald E hH 6 0 wM_g8 rfl hi3 dX4_push_17 ?_
    refine lv_iconst (v := (1 : Int32)) hx hb dX4_push_18 (by decide) ?_
    refine lv_icmp_eq (tgt := 39) hx hb dX4_push_19 (by decide) (fun hc => ?_) (fun hc => ?_)
    · have h := h.1 hc
      refine lv_iload_n hx hb dX4_push_39 rfl (lv_at hl 3 rfl) ?_
      refine lv_if_lt (tgt := 58) hx hb dX4_push_40 (by decide) (fun hc => ?_) (fun hc => ?_)
      · have h := h.1 hc
        exact k_X4_push_58 E  hH (lv_sub hl [1] rfl) h
      · have h := h.2 hc
        refine lv_iload_n hx hb dX4_push_43 rfl (lv_at hl 3 rfl) ?_
        refine lv_sipush (v := (1024 : Int32)) hx hb dX4_push_44 (by decide) ?_
        refine lv_icmp_ge (tgt := 58) hx hb dX4_push_47 (by decide) (fun hc => ?_) (fun hc => ?_)
        · have h := h.1 hc
          exact k_X4_push_58 E  hH (lv_sub hl [1] rfl) h
        · have h := h.2 hc
          refine lv_iload hx hb dX4_push_50 (lv_at hl 5 rfl) ?_
          refine x_ci (x_runS (As := [.int x4]) (rest := []) E (c_X4_isPlace h) yk_X4_isPlace yi_X4_isPlace km_X4_64 ⟨Nat.le_of_ble_eq_true rfl, Nat.le_of_ble_eq_true rfl⟩ ⟨Nat.le_of_ble_eq_true rfl, Nat.le_of_ble_eq_true rfl⟩ hH  hl.1 rfl rfl (lv_room (Nat.le_of_ble_eq_true rfl)) dX4_push_52) hH (fun r5 C4 H locs h hH => ?_)
          refine lv_if_ne (tgt := 64) hx hb dX4_push_55 (by decide) (fun hc => ?_) (fun hc => ?_)
          · have h := h.1 hc
            refine lv_aload_n hx hb dX4_push_64 rfl (lv_at hl 1 rfl) ?_
            refine lv_iload_n hx hb dX4_push_65 rfl (lv_at hl 2 rfl) ?_
            refine x_ci (x_runV (As := [.int x1]) (rest := []) E (c_X4_size h) yk_X4_size yi_X4_size km_X4_68 ⟨Nat.le_of_ble_eq_true rfl, Nat.le_of_ble_eq_true rfl⟩ ⟨Nat.le_of_ble_eq_true rfl, Nat.le_of_ble_eq_true rfl⟩ hH (va_recv E.2.2.2.2.2.1 hH.1 (ci := 4) (q0 := 0) rfl wM_g0) hl.1 rfl rfl (lv_room (Nat.le_of_ble_eq_true rfl)) dX4_push_66) hH (fun r7 C6 H locs h hH => ?_)
            refine lv_sipush (v := (400 : Int32)) hx hb dX4_push_69 (by decide) ?_
            refine lv_icmp_eq (tgt := 97) hx hb dX4_push_72 (by decide) (fun hc => ?_) (fun hc => ?_)
            · have h := h.1 hc
              exact k_X4_push_97 E  hH (lv_sub hl [1] rfl) h
            · have h := h.2 hc
              refine lv_aload_n hx hb dX4_push_75 rfl (lv_at hl 1 rfl) ?_
              refine x_get (ci := 4) (CN := RX4) (T := TX4) (N := 20) E in_X4 hH 0 wM_g0 rfl 0 (by decide) kf_X4_7 rfl dX4_push_76 ?_
              refine lv_sipush (v := (500 : Int32)) hx hb dX4_push_79 (by decide) ?_
              refine lv_icmp_eq (tgt := 97) hx hb dX4_push_82 (by decide) (fun hc => ?_) (fun hc => ?_)
              · have h := h.1 hc
                exact k_X4_push_97 E  hH (lv_sub hl [1] rfl) h
              · have h := h.2 hc
                refine lv_aload_n hx hb dX4_push_85 rfl (lv_at hl 1 rfl) ?_
                refine x_get (ci := 4) (CN := RX4) (T := TX4) (N := 20) E in_X4 hH 0 wM_g0 rfl 7 (by decide) kf_X4_89 rfl dX4_push_86 ?_
                refine lv_iconst (v := (1 : Int32)) hx hb dX4_push_89 (by decide) ?_
                refine lv_iadd hx hb dX4_push_90 ?_
                refine lv_sipush (v := (20000 : Int32)) hx hb dX4_push_91 (by decide) ?_
                refine lv_icmp_le (tgt := 104) hx hb dX4_push_94 (by decide) (fun hc => ?_) (fun hc => ?_)
                · have h := h.1 hc
                  refine lv_aload_n hx hb dX4_push_104 rfl (lv_at hl 1 rfl) ?_
                  refine lv_aload_n hx hb dX4_push_105 rfl (lv_at hl 1 rfl) ?_
                  refine x_get (ci := 4) (CN := RX4) (T := TX4) (N := 20) E in_X4 hH 0 wM_g0 rfl 9 (by decide) kf_X4_34 rfl dX4_push_106 ?_
                  refine lv_iload_n hx hb dX4_push_109 rfl (lv_at hl 2 rfl) ?_
                  refine x_iald E hH 7 0 wM_g9 rfl hi3 dX4_push_110 ?_
                  refine lv_aload_n hx hb dX4_push_111 rfl (lv_at hl 1 rfl) ?_
                  refine lv_iload_n hx hb dX4_push_112 rfl (lv_at hl 2 rfl) ?_
                  refine x_ci (x_runV (As := [.int x1]) (rest := [.int ((mr C6 9) (Int32.toNatClampNeg x1)), .ref (a 0)]) E (c_X4_size h) yk_X4_size yi_X4_size km_X4_68 ⟨Nat.le_of_ble_eq_true rfl, Nat.le_of_ble_eq_true rfl⟩ ⟨Nat.le_of_ble_eq_true rfl, Nat.le_of_ble_eq_true rfl⟩ hH (va_recv E.2.2.2.2.2.1 hH.1 (ci := 4) (q0 := 0) rfl wM_g0) hl.1 rfl rfl (lv_room (Nat.le_of_ble_eq_true rfl)) dX4_push_113) hH (fun r9 C8 H locs h hH => ?_)
                  refine x_ci (x_runV (As := [.int ((mr C6 9) (Int32.toNatClampNeg x1)), .int r9]) (rest := []) E (c_X4_begin h) yk_X4_begin yi_X4_begin km_X4_92 ⟨Nat.le_of_ble_eq_true rfl, Nat.le_of_ble_eq_true rfl⟩ ⟨Nat.le_of_ble_eq_true rfl, Nat.le_of_ble_eq_true rfl⟩ hH (va_recv E.2.2.2.2.2.1 hH.1 (ci := 4) (q0 := 0) rfl wM_g0) hl.1 rfl rfl (lv_room (Nat.le_of_ble_eq_true rfl)) dX4_push_116) hH (fun r11 C10 H locs h hH => ?_)
                  refine lv_istore (lv' := [(6, .int r11), (5, .int r2), (0, .ref (a 0)), (1, .int x1), (2, .int x2), (3, .int x3), (4, .int x4)]) hx hb dX4_push_119 hl (by decide) rfl (fun ls hl => ?_)
                  refine lv_aload_n hx hb dX4_push_121 rfl (lv_at hl 2 rfl) ?_
                  refine lv_iload_n hx hb dX4_push_122 rfl (lv_at hl 4 rfl) ?_
                  refine lv_iload_n hx hb dX4_push_123 rfl (lv_at hl 5 rfl) ?_
                  refine x_cv (x_runV (As := [.int x2, .int x3]) (rest := []) E (c_X4_add h) yk_X4_add yi_X4_add km_X4_82 ⟨Nat.le_of_ble_eq_true rfl, Nat.le_of_ble_eq_true rfl⟩ ⟨Nat.le_of_ble_eq_true rfl, Nat.le_of_ble_eq_true rfl⟩ hH (va_recv E.2.2.2.2.2.1 hH.1 (ci := 4) (q0 := 0) rfl wM_g0) hl.1 rfl rfl (lv_room (Nat.le_of_ble_eq_true rfl)) dX4_push_124) hH (fun C12 H locs h hH => ?_)
                  refine lv_aload_n hx hb dX4_push_127 rfl (lv_at hl 2 rfl) ?_
                  refine lv_dup hx hb dX4_push_128 rfl ?_
                  refine x_get (ci := 4) (CN := RX4) (T := TX4) (N := 20) E in_X4 hH 0 wM_g0 rfl 7 (by decide) kf_X4_89 rfl dX4_push_129 ?_
                  refine lv_iconst (v := (1 : Int32)) hx hb dX4_push_132 (by decide) ?_
                  refine lv_iadd hx hb dX4_push_133 ?_
                  refine x_puti (ci := 4) (CN := RX4) (T := TX4) (N := 20) E in_X4 tyX4 tyX4_ok nmX4 hH 0 wM_g0 rfl 7 (by decide) kf_X4_89 rfl (by decide +kernel) (Nat.le_of_ble_eq_true rfl) wM_z7 dX4_push_134 (fun H locs hH => ?_)
                  refine lv_aload_n hx hb dX4_push_137 rfl (lv_at hl 2 rfl) ?_
                  refine lv_iload hx hb dX4_push_138 (lv_at hl 0 rfl) ?_
                  refine lv_iload hx hb dX4_push_140 (lv_at hl 6 rfl) ?_
                  refine x_ci (x_runV (As := [.int r11, .int x4]) (rest := []) E (c_X4_finish h) yk_X4_finish yi_X4_finish km_X4_96 ⟨Nat.le_of_ble_eq_true rfl, Nat.le_of_ble_eq_true rfl⟩ ⟨Nat.le_of_ble_eq_true rfl, Nat.le_of_ble_eq_true rfl⟩ hH (va_recv E.2.2.2.2.2.1 hH.1 (ci := 4) (q0 := 0) rfl wM_g0) hl.1 rfl rfl (lv_room (Nat.le_of_ble_eq_true rfl)) dX4_push_142) hH (fun r15 C14 H locs h hH => ?_)
                  exact x_iret E hH h dX4_push_145
                · have h := h.2 hc
                  exact k_X4_push_97 E  hH (lv_sub hl [1] rfl) h
          · have h := h.2 hc
            exact k_X4_push_58 E  hH (lv_sub hl [1] rfl) h
    · have h := h.2 hc
      exact k_X4_push_22 E  hH (lv_sub hl [1, 0] rfl) h
set_option maxHeartbeats 4000000 in
set_option maxRecDepth 100000 in
theorem k_X4_cut_66 {post : Int32 → MS → Prop} (E : Cx p s m args meth c cX4_cut 5 RX4 (some .int) D (tyW cI cS cO))  {C : MS}  {H : Heap} {locs : List Loc} {ls : Array Slot} (hH : HX D (wM cI cS a C) A s.heap H locs) (hl : lv_has ls 5 [(0, .ref (a 0))]) (h : w_X4_cut_66 post C ) : W p l e (rmA 2 0 0) s m args below meth c H locs 0 0 (MQ below ((QI D (wM cI cS a) post) A) args s 0 0 A) (F0 m 66 ls []) := by
  have hx := E.1
  have hb := E.2.1
  unfold w_X4_cut_66 at h
  refine lv_aload_n hx hb dX4_cut_66 rfl (lv_at hl 0 rfl) ?_
  refine lv_iconst (v := (-1 : Int32)) hx hb dX4_cut_67 (by decide) ?_
  refine x_ci (x_runV (As := [.int (-1 : Int32)]) (rest := []) E (c_X4_answer h) yk_X4_answer yi_X4_answer km_X4_86 ⟨Nat.le_of_ble_eq_true rfl, Nat.le_of_ble_eq_true rfl⟩ ⟨Nat.le_of_ble_eq_true rfl, Nat.le_of_ble_eq_true rfl⟩ hH (va_recv E.2.2.2.2.2.1 hH.1 (ci := 4) (q0 := 0) rfl wM_g0) hl.1 rfl rfl (lv_room (Nat.le_of_ble_eq_true rfl)) dX4_cut_68) hH (fun r17 C16 H locs h hH => ?_)
  exact x_iret E hH h dX4_cut_71
set_option maxHeartbeats 4000000 in
set_option maxRecDepth 100000 in
theorem k_X4_cut_35 {post : Int32 → MS → Prop} (E : Cx p s m args meth c cX4_cut 5 RX4 (some .int) D (tyW cI cS cO))  {C : MS} {s0 : Int32} {H : Heap} {locs : List Loc} {ls : Array Slot} (hH : HX D (wM cI cS a C) A s.heap H locs) (hl : lv_has ls 5 []) (h : w_X4_cut_35 post C s0) : W p l e (rmA 2 0 0) s m args below meth c H locs 0 0 (MQ below ((QI D (wM cI cS a) post) A) args s 0 0 A) (F0 m 35 ls [.int s0, .ref (a 0)]) := by
  have hx := E.1
  have hb := E.2.1
  unfold w_X4_cut_35 at h
  refine x_ci (x_runV (As := [.int s0]) (rest := []) E (c_X4_answer h) yk_X4_answer yi_X4_answer km_X4_86 ⟨Nat.le_of_ble_eq_true rfl, Nat.le_of_ble_eq_true rfl⟩ ⟨Nat.le_of_ble_eq_true rfl, Nat.le_of_ble_eq_true rfl⟩ hH (va_recv E.2.2.2.2.2.1 hH.1 (ci := 4) (q0 := 0) rfl wM_g0) hl.1 rfl rfl (lv_room (Nat.le_of_ble_eq_true rfl)) dX4_cut_35) hH (fun r19 C18 H locs h hH => ?_)
  exact x_iret E hH h dX4_cut_38
set_option maxHeartbeats 4000000 in
set_option maxRecDepth 100000 in
theorem k_X4_cut_22 {post : Int32 → MS → Prop} (E : Cx p s m args meth c cX4_cut 5 RX4 (some .int) D (tyW cI cS cO))  {C : MS} {x4 : Int32} {H : Heap} {locs : List Loc} {ls : Array Slot} (hH : HX D (wM cI cS a C) A s.heap H locs) (hl : lv_has ls 5 [(0, .ref (a 0)), (4, .int x4)]) (h : w_X4_cut_22 post C x4) : W p l e (rmA 2 0 0) s m args below meth c H locs 0 0 (MQ below ((QI D (wM cI cS a) post) A) args s 0 0 A) (F0 m 22 ls []) := by
  have hx := E.1
  have hb := E.2.1
  unfold w_X4_cut_22 at h
  refine lv_aload_n hx hb dX4_cut_22 rfl (lv_at hl 0 rfl) ?_
  refine lv_iload hx hb dX4_cut_23 (lv_at hl 1 rfl) ?_
  refine lv_if_ge (tgt := 33) hx hb dX4_cut_25 (by decide) (fun hc => ?_) (fun hc => ?_)
  · have h := h.1 hc
    refine lv_bipush (v := (-3 : Int32)) hx hb dX4_cut_33 (by decide) ?_
    exact k_X4_cut_35 E  hH (lv_sub hl [] rfl) h
  · have h := h.2 hc
    refine lv_iload hx hb dX4_cut_28 (lv_at hl 1 rfl) ?_
    refine lv_goto (tgt := 35) hx hb dX4_cut_30 (by decide) ?_
    exact k_X4_cut_35 E  hH (lv_sub hl [] rfl) h
set_option maxHeartbeats 4000000 in
set_option maxRecDepth 100000 in
theorem c_X4_cut {l : Launch} {D : va_G} {cI cS cO : ClassId} {a : Nat → Nat} {C : MS} {x1 : Int32} {x2 : Int32} {x3 : Int32} {post : Int32 → MS → Prop} (h : w_X4_cut post C x1 x2 x3) : MetX l D (tyW cI cS cO) yX4_cut cX4_cut 5 (some .int) 2 0 0 [.ref (a 0), .int x1, .int x2, .int x3] (wM cI cS a C) (QI D (wM cI cS a) post) := by
  refine x_ent (by decide) (Nat.le_of_ble_eq_true rfl) ?_
  intro p e s m below meth c ls E _ hH hl
  have hx := E.1
  have hb := E.2.1
  generalize va_A (wM cI cS a C) s.heap.size = A at hH ⊢
  have hl : lv_has ls 5 [(0, .ref (a 0)), (1, .int x1), (2, .int x2), (3, .int x3)] := hl
  unfold w_X4_cut at h
  refine lv_aload_n hx hb dX4_cut_0 rfl (lv_at hl 0 rfl) ?_
  refine lv_iload_n hx hb dX4_cut_1 rfl (lv_at hl 1 rfl) ?_
  refine x_ci (x_runV (As := [.int x1]) (rest := []) E (c_X4_look h) yk_X4_look yi_X4_look km_X4_72 ⟨Nat.le_of_ble_eq_true rfl, Nat.le_of_ble_eq_true rfl⟩ ⟨Nat.le_of_ble_eq_true rfl, Nat.le_of_ble_eq_true rfl⟩ hH (va_recv E.2.2.2.2.2.1 hH.1 (ci := 4) (q0 := 0) rfl wM_g0) hl.1 rfl rfl (lv_room (Nat.le_of_ble_eq_true rfl)) dX4_cut_2) hH (fun r2 C1 H locs h hH => ?_)
  refine lv_istore (lv' := [(4, .int r2), (0, .ref (a 0)), (1, .int x1), (2, .int x2), (3, .int x3)]) hx hb dX4_cut_5 hl (by decide) rfl (fun ls hl => ?_)
  refine lv_iload hx hb dX4_cut_7 (lv_at hl 0 rfl) ?_
  refine lv_if_lt (tgt := 22) hx hb dX4_cut_9 (by decide) (fun hc => ?_) (fun hc => ?_)
  · have h := h.1 hc
    exact k_X4_cut_22 E  hH (lv_sub hl [1, 0] rfl) h
  · have h := h.2 hc
    refine lv_aload_n hx hb dX4_cut_12 rfl (lv_at hl 1 rfl) ?_
    refine x_get (ci := 4) (CN := RX4) (T := TX4) (N := 20) E in_X4 hH 0 wM_g0 rfl 8 (by decide) kf_X4_31 rfl dX4_cut_13 ?_
    refine lv_iload_n hx hb dX4_cut_16 rfl (lv_at hl 2 rfl) ?_
    obtain ⟨hi3, h⟩ := h
    refine x_iald E hH 6 0 wM_g8 rfl hi3 dX4_cut_17 ?_
    refine lv_iconst (v := (1 : Int32)) hx hb dX4_cut_18 (by decide) ?_
    refine lv_icmp_eq (tgt := 39) hx hb dX4_cut_19 (by decide) (fun hc => ?_) (fun hc => ?_)
    · have h := h.1 hc
      refine lv_iload_n hx hb dX4_cut_39 rfl (lv_at hl 3 rfl) ?_
      refine lv_if_ge (tgt := 50) hx hb dX4_cut_40 (by decide) (fun hc => ?_) (fun hc => ?_)
      · have h := h.1 hc
        refine lv_iload_n hx hb dX4_cut_50 rfl (lv_at hl 3 rfl) ?_
        refine lv_aload_n hx hb dX4_cut_51 rfl (lv_at hl 1 rfl) ?_
        refine lv_iload_n hx hb dX4_cut_52 rfl (lv_at hl 2 rfl) ?_
        refine x_ci (x_runV (As := [.int x1]) (rest := [.int x2]) E (c_X4_size h) yk_X4_size yi_X4_size km_X4_68 ⟨Nat.le_of_ble_eq_true rfl, Nat.le_of_ble_eq_true rfl⟩ ⟨Nat.le_of_ble_eq_true rfl, Nat.le_of_ble_eq_true rfl⟩ hH (va_recv E.2.2.2.2.2.1 hH.1 (ci := 4) (q0 := 0) rfl wM_g0) hl.1 rfl rfl (lv_room (Nat.le_of_ble_eq_true rfl)) dX4_cut_53) hH (fun r5 C4 H locs h hH => ?_)
        refine lv_icmp_gt (tgt := 66) hx hb dX4_cut_56 (by decide) (fun hc => ?_) (fun hc => ?_)
        · have h := h.1 hc
          exact k_X4_cut_66 E  hH (lv_sub hl [1] rfl) h
        · have h := h.2 hc
          refine lv_iload_n hx hb dX4_cut_59 rfl (lv_at hl 4 rfl) ?_
          refine x_ci (x_runS (As := [.int x3]) (rest := []) E (c_X4_isPlace h) yk_X4_isPlace yi_X4_isPlace km_X4_64 ⟨Nat.le_of_ble_eq_true rfl, Nat.le_of_ble_eq_true rfl⟩ ⟨Nat.le_of_ble_eq_true rfl, Nat.le_of_ble_eq_true rfl⟩ hH  hl.1 rfl rfl (lv_room (Nat.le_of_ble_eq_true rfl)) dX4_cut_60) hH (fun r7 C6 H locs h hH => ?_)
          refine lv_if_ne (tgt := 72) hx hb dX4_cut_63 (by decide) (fun hc => ?_) (fun hc => ?_)
          · have h := h.1 hc
            refine lv_aload_n hx hb dX4_cut_72 rfl (lv_at hl 1 rfl) ?_
            refine x_get (ci := 4) (CN := RX4) (T := TX4) (N := 20) E in_X4 hH 0 wM_g0 rfl 0 (by decide) kf_X4_7 rfl dX4_cut_73 ?_
            refine lv_sipush (v := (500 : Int32)) hx hb dX4_cut_76 (by decide) ?_
            refine lv_icmp_ne (tgt := 89) hx hb dX4_cut_79 (by decide) (fun hc => ?_) (fun hc => ?_)
            · have h := h.1 hc
              refine lv_aload_n hx hb dX4_cut_89 rfl (lv_at hl 1 rfl) ?_
              refine lv_aload_n hx hb dX4_cut_90 rfl (lv_at hl 1 rfl) ?_
              refine lv_aload_n hx hb dX4_cut_91 rfl (lv_at hl 1 rfl) ?_
              refine x_get (ci := 4) (CN := RX4) (T := TX4) (N := 20) E in_X4 hH 0 wM_g0 rfl 9 (by decide) kf_X4_34 rfl dX4_cut_92 ?_
              refine lv_iload_n hx hb dX4_cut_95 rfl (lv_at hl 2 rfl) ?_
              refine x_iald E hH 7 0 wM_g9 rfl hi3 dX4_cut_96 ?_
              refine lv_iload_n hx hb dX4_cut_97 rfl (lv_at hl 3 rfl) ?_
              refine x_ci (x_runV (As := [.int ((mr C6 9) (Int32.toNatClampNeg x1)), .int x2]) (rest := [.ref (a 0)]) E (c_X4_begin h) yk_X4_begin yi_X4_begin km_X4_92 ⟨Nat.le_of_ble_eq_true rfl, Nat.le_of_ble_eq_true rfl⟩ ⟨Nat.le_of_ble_eq_true rfl, Nat.le_of_ble_eq_true rfl⟩ hH (va_recv E.2.2.2.2.2.1 hH.1 (ci := 4) (q0 := 0) rfl wM_g0) hl.1 rfl rfl (lv_room (Nat.le_of_ble_eq_true rfl)) dX4_cut_98) hH (fun r9 C8 H locs h hH => ?_)
              refine lv_iload_n hx hb dX4_cut_101 rfl (lv_at hl 4 rfl) ?_
              refine x_ci (x_runV (As := [.int r9, .int x3]) (rest := []) E (c_X4_finish h) yk_X4_finish yi_X4_finish km_X4_96 ⟨Nat.le_of_ble_eq_true rfl, Nat.le_of_ble_eq_true rfl⟩ ⟨Nat.le_of_ble_eq_true rfl, Nat.le_of_ble_eq_true rfl⟩ hH (va_recv E.2.2.2.2.2.1 hH.1 (ci := 4) (q0 := 0) rfl wM_g0) hl.1 rfl rfl (lv_room (Nat.le_of_ble_eq_true rfl)) dX4_cut_102) hH (fun r11 C10 H locs h hH => ?_)
              exact x_iret E hH h dX4_cut_105
            · have h := h.2 hc
              refine lv_aload_n hx hb dX4_cut_82 rfl (lv_at hl 1 rfl) ?_
              refine lv_bipush (v := (-5 : Int32)) hx hb dX4_cut_83 (by decide) ?_
              refine x_ci (x_runV (As := [.int (-5 : Int32)]) (rest := []) E (c_X4_answer h) yk_X4_answer yi_X4_answer km_X4_86 ⟨Nat.le_of_ble_eq_true rfl, Nat.le_of_ble_eq_true rfl⟩ ⟨Nat.le_of_ble_eq_true rfl, Nat.le_of_ble_eq_true rfl⟩ hH (va_recv E.2.2.2.2.2.1 hH.1 (ci := 4) (q0 := 0) rfl wM_g0) hl.1 rfl rfl (lv_room (Nat.le_of_ble_eq_true rfl)) dX4_cut_85) hH (fun r13 C12 H locs h hH => ?_)
              exact x_iret E hH h dX4_cut_88
          · have h := h.2 hc
            exact k_X4_cut_66 E  hH (lv_sub hl [1] rfl) h
      · have h := h.2 hc
        refine lv_aload_n hx hb dX4_cut_43 rfl (lv_at hl 1 rfl) ?_
        refine lv_bipush (v := (-4 : Int32)) hx hb dX4_cut_44 (by decide) ?_
        refine x_ci (x_runV (As := [.int (-4 : Int32)]) (rest := []) E (c_X4_answer h) yk_X4_answer yi_X4_answer km_X4_86 ⟨Nat.le_of_ble_eq_true rfl, Nat.le_of_ble_eq_true rfl⟩ ⟨Nat.le_of_ble_eq_true rfl, Nat.le_of_ble_eq_true rfl⟩ hH (va_recv E.2.2.2.2.2.1 hH.1 (ci := 4) (q0 := 0) rfl wM_g0) hl.1 rfl rfl (lv_room (Nat.le_of_ble_eq_true rfl)) dX4_cut_46) hH (fun r15 C14 H locs h hH => ?_)
        exact x_iret E hH h dX4_cut_49
    · have h := h.2 hc
      exact k_X4_cut_22 E  hH (lv_sub hl [1, 0] rfl) h
set_option maxHeartbeats 4000000 in
set_option maxRecDepth 100000 in
theorem k_X4_join_148b {post : Int32 → MS → Prop} (E : Cx p s m args meth c cX4_join 10 RX4 (some .int) D (tyW cI cS cO))  {K148 : MS → Int32 → Int32 → Int32 → Int32 → Int32 → Int32 → Prop} (hK148 : ∀ (C : MS) (x2 : Int32) (x4 : Int32) (x5 : Int32) (x7 : Int32) (x8 : Int32) (x9 : Int32) (H : Heap) (locs : List Loc) (ls : Array Slot), HX D (wM cI cS a C) A s.heap H locs → lv_has ls 10 [(0, .ref (a 0)), (2, .int x2), (4, .int x4), (5, .int x5), (7, .int x7), (8, .int x8), (9, .int x9)] → K148 C x2 x4 x5 x7 x8 x9 → W p l e (rmA 3 0 0) s m args below meth c H locs 0 0 (MQ below ((QI D (wM cI cS a) post) A) args s 0 0 A) (F0 m 148 ls [])) {C : MS} {x2 : Int32} {x4 : Int32} {x5 : Int32} {x7 : Int32} {x8 : Int32} {x9 : Int32} {H : Heap} {locs : List Loc} {ls : Array Slot} (hH : HX D (wM cI cS a C) A s.heap H locs) (hl : lv_has ls 10 [(0, .ref (a 0)), (2, .int x2), (4, .int x4), (5, .int x5), (7, .int x7), (8, .int x8), (9, .int x9)]) (h : w_X4_join_148b post K148 C x2 x4 x5 x7 x8 x9) : W p l e (rmA 3 0 0) s m args below meth c H locs 0 0 (MQ below ((QI D (wM cI cS a) post) A) args s 0 0 A) (F0 m 148 ls []) := by
  have hx := E.1
  have hb := E.2.1
  unfold w_X4_join_148b at h
  refine lv_iload hx hb dX4_join_148 (lv_at hl 6 rfl) ?_
  refine lv_iload hx hb dX4_join_150 (lv_at hl 2 rfl) ?_
  refine lv_icmp_ge (tgt := 179) hx hb dX4_join_152 (by decide) (fun hc => ?_) (fun hc => ?_)
  · have h := h.1 hc
    refine lv_aload_n hx hb dX4_join_179 rfl (lv_at hl 0 rfl) ?_
    refine lv_dup hx hb dX4_join_180 rfl ?_
    refine x_get (ci := 4) (CN := RX4) (T := TX4) (N := 20) E in_X4 hH 0 wM_g0 rfl 7 (by decide) kf_X4_89 rfl dX4_join_181 ?_
    refine lv_iload hx hb dX4_join_184 (lv_at hl 4 rfl) ?_
    refine lv_iadd hx hb dX4_join_186 ?_
    refine x_puti (ci := 4) (CN := RX4) (T := TX4) (N := 20) E in_X4 tyX4 tyX4_ok nmX4 hH 0 wM_g0 rfl 7 (by decide) kf_X4_89 rfl (by decide +kernel) (Nat.le_of_ble_eq_true rfl) wM_z7 dX4_join_187 (fun H locs hH => ?_)
    refine lv_aload_n hx hb dX4_join_190 rfl (lv_at hl 0 rfl) ?_
    refine lv_iload hx hb dX4_join_191 (lv_at hl 5 rfl) ?_
    refine lv_iload hx hb dX4_join_193 (lv_at hl 3 rfl) ?_
    refine x_ci (x_runV (As := [.int x8, .int x5]) (rest := []) E (c_X4_finish h) yk_X4_finish yi_X4_finish km_X4_96 ⟨Nat.le_of_ble_eq_true rfl, Nat.le_of_ble_eq_true rfl⟩ ⟨Nat.le_of_ble_eq_true rfl, Nat.le_of_ble_eq_true rfl⟩ hH (va_recv E.2.2.2.2.2.1 hH.1 (ci := 4) (q0 := 0) rfl wM_g0) hl.1 rfl rfl (lv_room (Nat.le_of_ble_eq_true rfl)) dX4_join_195) hH (fun r18 C17 H locs h hH => ?_)
    exact x_iret E hH h dX4_join_198
  · have h := h.2 hc
    refine lv_aload_n hx hb dX4_join_155 rfl (lv_at hl 0 rfl) ?_
    refine lv_aload_n hx hb dX4_join_156 rfl (lv_at hl 0 rfl) ?_
    refine lv_iload_n hx hb dX4_join_157 rfl (lv_at hl 1 rfl) ?_
    refine lv_iload hx hb dX4_join_158 (lv_at hl 6 rfl) ?_
    refine x_ci (x_runV (As := [.int x2, .int x9]) (rest := [.ref (a 0)]) E (c_X4_valueAt h) yk_X4_valueAt yi_X4_valueAt km_X4_103 ⟨Nat.le_of_ble_eq_true rfl, Nat.le_of_ble_eq_true rfl⟩ ⟨Nat.le_of_ble_eq_true rfl, Nat.le_of_ble_eq_true rfl⟩ hH (va_recv E.2.2.2.2.2.1 hH.1 (ci := 4) (q0 := 0) rfl wM_g0) hl.1 rfl rfl (lv_room (Nat.le_of_ble_eq_true rfl)) dX4_join_160) hH (fun r20 C19 H locs h hH => ?_)
    refine lv_aload_n hx hb dX4_join_163 rfl (lv_at hl 0 rfl) ?_
    refine lv_iload_n hx hb dX4_join_164 rfl (lv_at hl 1 rfl) ?_
    refine lv_iload hx hb dX4_join_165 (lv_at hl 6 rfl) ?_
    refine x_ci (x_runV (As := [.int x2, .int x9]) (rest := [.int r20, .ref (a 0)]) E (c_X4_weightAt h) yk_X4_weightAt yi_X4_weightAt km_X4_106 ⟨Nat.le_of_ble_eq_true rfl, Nat.le_of_ble_eq_true rfl⟩ ⟨Nat.le_of_ble_eq_true rfl, Nat.le_of_ble_eq_true rfl⟩ hH (va_recv E.2.2.2.2.2.1 hH.1 (ci := 4) (q0 := 0) rfl wM_g0) hl.1 rfl rfl (lv_room (Nat.le_of_ble_eq_true rfl)) dX4_join_167) hH (fun r22 C21 H locs h hH => ?_)
    refine x_cv (x_runV (As := [.int r20, .int r22]) (rest := []) E (c_X4_add h) yk_X4_add yi_X4_add km_X4_82 ⟨Nat.le_of_ble_eq_true rfl, Nat.le_of_ble_eq_true rfl⟩ ⟨Nat.le_of_ble_eq_true rfl, Nat.le_of_ble_eq_true rfl⟩ hH (va_recv E.2.2.2.2.2.1 hH.1 (ci := 4) (q0 := 0) rfl wM_g0) hl.1 rfl rfl (lv_room (Nat.le_of_ble_eq_true rfl)) dX4_join_170) hH (fun C23 H locs h hH => ?_)
    refine lv_iinc (v := (x9 + 1)) (lv' := [(9, .int (x9 + 1)), (0, .ref (a 0)), (2, .int x2), (4, .int x4), (5, .int x5), (7, .int x7), (8, .int x8)]) hx hb dX4_join_173 hl (k := 6) rfl rfl (by decide) rfl (fun ls hl => ?_)
    refine lv_goto (tgt := 148) hx hb dX4_join_176 (by decide) ?_
    exact hK148 _ _ _ _ _ _ _ _ _ _ hH (lv_sub hl [1, 2, 3, 4, 5, 6, 0] rfl) h
theorem k_X4_join_148 {post : Int32 → MS → Prop} (E : Cx p s m args meth c cX4_join 10 RX4 (some .int) D (tyW cI cS cO))  (n : Nat) : ∀ {C : MS} {x2 : Int32} {x4 : Int32} {x5 : Int32} {x7 : Int32} {x8 : Int32} {x9 : Int32} {H : Heap} {locs : List Loc} {ls : Array Slot} (hH : HX D (wM cI cS a C) A s.heap H locs) (hl : lv_has ls 10 [(0, .ref (a 0)), (2, .int x2), (4, .int x4), (5, .int x5), (7, .int x7), (8, .int x8), (9, .int x9)]) (h : w_X4_join_148 post n C x2 x4 x5 x7 x8 x9), W p l e (rmA 3 0 0) s m args below meth c H locs 0 0 (MQ below ((QI D (wM cI cS a) post) A) args s 0 0 A) (F0 m 148 ls []) := by
  induction n with
  | zero => intros; contradiction
  | succ n ih => intro C x2 x4 x5 x7 x8 x9 H locs ls hH hl h; exact k_X4_join_148b E  (fun C x2 x4 x5 x7 x8 x9 H locs ls hH hl h => ih hH hl h) hH hl h
set_option maxHeartbeats 4000000 in
set_option maxRecDepth 100000 in
theorem k_X4_join_121 {post : Int32 → MS → Prop} (E : Cx p s m args meth c cX4_join 10 RX4 (some .int) D (tyW cI cS cO))  {C : MS}  {H : Heap} {locs : List Loc} {ls : Array Slot} (hH : HX D (wM cI cS a C) A s.heap H locs) (hl : lv_has ls 10 [(0, .ref (a 0))]) (h : w_X4_join_121 post C ) : W p l e (rmA 3 0 0) s m args below meth c H locs 0 0 (MQ below ((QI D (wM cI cS a) post) A) args s 0 0 A) (F0 m 121 ls []) := by
  have hx := E.1
  have hb := E.2.1
  unfold w_X4_join_121 at h
  refine lv_aload_n hx hb dX4_join_121 rfl (lv_at hl 0 rfl) ?_
  refine lv_bipush (v := (-5 : Int32)) hx hb dX4_join_122 (by decide) ?_
  refine x_ci (x_runV (As := [.int (-5 : Int32)]) (rest := []) E (c_X4_answer h) yk_X4_answer yi_X4_answer km_X4_86 ⟨Nat.le_of_ble_eq_true rfl, Nat.le_of_ble_eq_true rfl⟩ ⟨Nat.le_of_ble_eq_true rfl, Nat.le_of_ble_eq_true rfl⟩ hH (va_recv E.2.2.2.2.2.1 hH.1 (ci := 4) (q0 := 0) rfl wM_g0) hl.1 rfl rfl (lv_room (Nat.le_of_ble_eq_true rfl)) dX4_join_124) hH (fun r16 C15 H locs h hH => ?_)
  exact x_iret E hH h dX4_join_127
set_option maxHeartbeats 4000000 in
set_option maxRecDepth 100000 in
theorem k_X4_join_74 {post : Int32 → MS → Prop} (E : Cx p s m args meth c cX4_join 10 RX4 (some .int) D (tyW cI cS cO))  {C : MS} {s0 : Int32} {H : Heap} {locs : List Loc} {ls : Array Slot} (hH : HX D (wM cI cS a C) A s.heap H locs) (hl : lv_has ls 10 []) (h : w_X4_join_74 post C s0) : W p l e (rmA 3 0 0) s m args below meth c H locs 0 0 (MQ below ((QI D (wM cI cS a) post) A) args s 0 0 A) (F0 m 74 ls [.int s0, .ref (a 0)]) := by
  have hx := E.1
  have hb := E.2.1
  unfold w_X4_join_74 at h
  refine x_ci (x_runV (As := [.int s0]) (rest := []) E (c_X4_answer h) yk_X4_answer yi_X4_answer km_X4_86 ⟨Nat.le_of_ble_eq_true rfl, Nat.le_of_ble_eq_true rfl⟩ ⟨Nat.le_of_ble_eq_true rfl, Nat.le_of_ble_eq_true rfl⟩ hH (va_recv E.2.2.2.2.2.1 hH.1 (ci := 4) (q0 := 0) rfl wM_g0) hl.1 rfl rfl (lv_room (Nat.le_of_ble_eq_true rfl)) dX4_join_74) hH (fun r28 C27 H locs h hH => ?_)
  exact x_iret E hH h dX4_join_77
set_option maxHeartbeats 4000000 in
set_option maxRecDepth 100000 in
theorem k_X4_join_62 {post : Int32 → MS → Prop} (E : Cx p s m args meth c cX4_join 10 RX4 (some .int) D (tyW cI cS cO))  {C : MS} {x6 : Int32} {H : Heap} {locs : List Loc} {ls : Array Slot} (hH : HX D (wM cI cS a C) A s.heap H locs) (hl : lv_has ls 10 [(0, .ref (a 0)), (6, .int x6)]) (h : w_X4_join_62 post C x6) : W p l e (rmA 3 0 0) s m args below meth c H locs 0 0 (MQ below ((QI D (wM cI cS a) post) A) args s 0 0 A) (F0 m 62 ls []) := by
  have hx := E.1
  have hb := E.2.1
  unfold w_X4_join_62 at h
  refine lv_aload_n hx hb dX4_join_62 rfl (lv_at hl 0 rfl) ?_
  refine lv_iload hx hb dX4_join_63 (lv_at hl 1 rfl) ?_
  refine lv_if_ge (tgt := 73) hx hb dX4_join_65 (by decide) (fun hc => ?_) (fun hc => ?_)
  · have h := h.1 hc
    refine lv_iconst (v := (-1 : Int32)) hx hb dX4_join_73 (by decide) ?_
    exact k_X4_join_74 E  hH (lv_sub hl [] rfl) h
  · have h := h.2 hc
    refine lv_iload hx hb dX4_join_68 (lv_at hl 1 rfl) ?_
    refine lv_goto (tgt := 74) hx hb dX4_join_70 (by decide) ?_
    exact k_X4_join_74 E  hH (lv_sub hl [] rfl) h
set_option maxHeartbeats 4000000 in
set_option maxRecDepth 100000 in
theorem k_X4_join_35 {post : Int32 → MS → Prop} (E : Cx p s m args meth c cX4_join 10 RX4 (some .int) D (tyW cI cS cO))  {C : MS} {s0 : Int32} {H : Heap} {locs : List Loc} {ls : Array Slot} (hH : HX D (wM cI cS a C) A s.heap H locs) (hl : lv_has ls 10 []) (h : w_X4_join_35 post C s0) : W p l e (rmA 3 0 0) s m args below meth c H locs 0 0 (MQ below ((QI D (wM cI cS a) post) A) args s 0 0 A) (F0 m 35 ls [.int s0, .ref (a 0)]) := by
  have hx := E.1
  have hb := E.2.1
  unfold w_X4_join_35 at h
  refine x_ci (x_runV (As := [.int s0]) (rest := []) E (c_X4_answer h) yk_X4_answer yi_X4_answer km_X4_86 ⟨Nat.le_of_ble_eq_true rfl, Nat.le_of_ble_eq_true rfl⟩ ⟨Nat.le_of_ble_eq_true rfl, Nat.le_of_ble_eq_true rfl⟩ hH (va_recv E.2.2.2.2.2.1 hH.1 (ci := 4) (q0 := 0) rfl wM_g0) hl.1 rfl rfl (lv_room (Nat.le_of_ble_eq_true rfl)) dX4_join_35) hH (fun r26 C25 H locs h hH => ?_)
  exact x_iret E hH h dX4_join_38
set_option maxHeartbeats 4000000 in
set_option maxRecDepth 100000 in
theorem k_X4_join_22 {post : Int32 → MS → Prop} (E : Cx p s m args meth c cX4_join 10 RX4 (some .int) D (tyW cI cS cO))  {C : MS} {x6 : Int32} {H : Heap} {locs : List Loc} {ls : Array Slot} (hH : HX D (wM cI cS a C) A s.heap H locs) (hl : lv_has ls 10 [(0, .ref (a 0)), (6, .int x6)]) (h : w_X4_join_22 post C x6) : W p l e (rmA 3 0 0) s m args below meth c H locs 0 0 (MQ below ((QI D (wM cI cS a) post) A) args s 0 0 A) (F0 m 22 ls []) := by
  have hx := E.1
  have hb := E.2.1
  unfold w_X4_join_22 at h
  refine lv_aload_n hx hb dX4_join_22 rfl (lv_at hl 0 rfl) ?_
  refine lv_iload hx hb dX4_join_23 (lv_at hl 1 rfl) ?_
  refine lv_if_ge (tgt := 33) hx hb dX4_join_25 (by decide) (fun hc => ?_) (fun hc => ?_)
  · have h := h.1 hc
    refine lv_bipush (v := (-3 : Int32)) hx hb dX4_join_33 (by decide) ?_
    exact k_X4_join_35 E  hH (lv_sub hl [] rfl) h
  · have h := h.2 hc
    refine lv_iload hx hb dX4_join_28 (lv_at hl 1 rfl) ?_
    refine lv_goto (tgt := 35) hx hb dX4_join_30 (by decide) ?_
    exact k_X4_join_35 E  hH (lv_sub hl [] rfl) h
set_option maxHeartbeats 4000000 in
set_option maxRecDepth 100000 in
theorem c_X4_join {l : Launch} {D : va_G} {cI cS cO : ClassId} {a : Nat → Nat} {C : MS} {x1 : Int32} {x2 : Int32} {x3 : Int32} {x4 : Int32} {x5 : Int32} {post : Int32 → MS → Prop} (h : w_X4_join post C x1 x2 x3 x4 x5) : MetX l D (tyW cI cS cO) yX4_join cX4_join 10 (some .int) 3 0 0 [.ref (a 0), .int x1, .int x2, .int x3, .int x4, .int x5] (wM cI cS a C) (QI D (wM cI cS a) post) := by
  refine x_ent (by decide) (Nat.le_of_ble_eq_true rfl) ?_
  intro p e s m below meth c ls E _ hH hl
  have hx := E.1
  have hb := E.2.1
  generalize va_A (wM cI cS a C) s.heap.size = A at hH ⊢
  have hl : lv_has ls 10 [(0, .ref (a 0)), (1, .int x1), (2, .int x2), (3, .int x3), (4, .int x4), (5, .int x5)] := hl
  unfold w_X4_join at h
  refine lv_aload_n hx hb dX4_join_0 rfl (lv_at hl 0 rfl) ?_
  refine lv_iload_n hx hb dX4_join_1 rfl (lv_at hl 1 rfl) ?_
  refine x_ci (x_runV (As := [.int x1]) (rest := []) E (c_X4_look h) yk_X4_look yi_X4_look km_X4_72 ⟨Nat.le_of_ble_eq_true rfl, Nat.le_of_ble_eq_true rfl⟩ ⟨Nat.le_of_ble_eq_true rfl, Nat.le_of_ble_eq_true rfl⟩ hH (va_recv E.2.2.2.2.2.1 hH.1 (ci := 4) (q0 := 0) rfl wM_g0) hl.1 rfl rfl (lv_room (Nat.le_of_ble_eq_true rfl)) dX4_join_2) hH (fun r2 C1 H locs h hH => ?_)
  refine lv_istore (lv' := [(6, .int r2), (0, .ref (a 0)), (1, .int x1), (2, .int x2), (3, .int x3), (4, .int x4), (5, .int x5)]) hx hb dX4_join_5 hl (by decide) rfl (fun ls hl => ?_)
  refine lv_iload hx hb dX4_join_7 (lv_at hl 0 rfl) ?_
  refine lv_if_lt (tgt := 22) hx hb dX4_join_9 (by decide) (fun hc => ?_) (fun hc => ?_)
  · have h := h.1 hc
    exact k_X4_join_22 E  hH (lv_sub hl [1, 0] rfl) h
  · have h := h.2 hc
    refine lv_aload_n hx hb dX4_join_12 rfl (lv_at hl 1 rfl) ?_
    refine x_get (ci := 4) (CN := RX4) (T := TX4) (N := 20) E in_X4 hH 0 wM_g0 rfl 8 (by decide) kf_X4_31 rfl dX4_join_13 ?_
    refine lv_iload_n hx hb dX4_join_16 rfl (lv_at hl 2 rfl) ?_
    obtain ⟨hi3, h⟩ := h
    refine x_iald E hH 6 0 wM_g8 rfl hi3 dX4_join_17 ?_
    refine lv_iconst (v := (1 : Int32)) hx hb dX4_join_18 (by decide) ?_
    refine lv_icmp_eq (tgt := 39) hx hb dX4_join_19 (by decide) (fun hc => ?_) (fun hc => ?_)
    · have h := h.1 hc
      refine lv_aload_n hx hb dX4_join_39 rfl (lv_at hl 1 rfl) ?_
      refine lv_iload_n hx hb dX4_join_40 rfl (lv_at hl 3 rfl) ?_
      refine lv_iload_n hx hb dX4_join_41 rfl (lv_at hl 4 rfl) ?_
      refine lv_iload hx hb dX4_join_42 (lv_at hl 5 rfl) ?_
      refine x_ci (x_runV (As := [.int x2, .int x3, .int x4]) (rest := []) E (c_X4_lookSpan h) yk_X4_lookSpan yi_X4_lookSpan km_X4_99 ⟨Nat.le_of_ble_eq_true rfl, Nat.le_of_ble_eq_true rfl⟩ ⟨Nat.le_of_ble_eq_true rfl, Nat.le_of_ble_eq_true rfl⟩ hH (va_recv E.2.2.2.2.2.1 hH.1 (ci := 4) (q0 := 0) rfl wM_g0) hl.1 rfl rfl (lv_room (Nat.le_of_ble_eq_true rfl)) dX4_join_44) hH (fun r5 C4 H locs h hH => ?_)
      refine lv_istore (lv' := [(6, .int r5), (0, .ref (a 0)), (1, .int x1), (2, .int x2), (3, .int x3), (4, .int x4), (5, .int x5)]) hx hb dX4_join_47 hl (by decide) rfl (fun ls hl => ?_)
      refine lv_iload hx hb dX4_join_49 (lv_at hl 0 rfl) ?_
      refine lv_if_lt (tgt := 62) hx hb dX4_join_51 (by decide) (fun hc => ?_) (fun hc => ?_)
      · have h := h.1 hc
        exact k_X4_join_62 E  hH (lv_sub hl [1, 0] rfl) h
      · have h := h.2 hc
        refine lv_iload hx hb dX4_join_54 (lv_at hl 6 rfl) ?_
        refine x_ci (x_runS (As := [.int x5]) (rest := []) E (c_X4_isPlace h) yk_X4_isPlace yi_X4_isPlace km_X4_64 ⟨Nat.le_of_ble_eq_true rfl, Nat.le_of_ble_eq_true rfl⟩ ⟨Nat.le_of_ble_eq_true rfl, Nat.le_of_ble_eq_true rfl⟩ hH  hl.1 rfl rfl (lv_room (Nat.le_of_ble_eq_true rfl)) dX4_join_56) hH (fun r7 C6 H locs h hH => ?_)
        refine lv_if_ne (tgt := 78) hx hb dX4_join_59 (by decide) (fun hc => ?_) (fun hc => ?_)
        · have h := h.1 hc
          refine lv_iload hx hb dX4_join_78 (lv_at hl 5 rfl) ?_
          refine lv_iload_n hx hb dX4_join_80 rfl (lv_at hl 4 rfl) ?_
          refine lv_isub hx hb dX4_join_81 ?_
          refine lv_istore (lv' := [(7, .int (x4 - x3)), (6, .int r5), (0, .ref (a 0)), (1, .int x1), (2, .int x2), (3, .int x3), (4, .int x4), (5, .int x5)]) hx hb dX4_join_82 hl (by decide) rfl (fun ls hl => ?_)
          refine lv_aload_n hx hb dX4_join_84 rfl (lv_at hl 2 rfl) ?_
          refine lv_iload_n hx hb dX4_join_85 rfl (lv_at hl 3 rfl) ?_
          refine x_ci (x_runV (As := [.int x1]) (rest := []) E (c_X4_size h) yk_X4_size yi_X4_size km_X4_68 ⟨Nat.le_of_ble_eq_true rfl, Nat.le_of_ble_eq_true rfl⟩ ⟨Nat.le_of_ble_eq_true rfl, Nat.le_of_ble_eq_true rfl⟩ hH (va_recv E.2.2.2.2.2.1 hH.1 (ci := 4) (q0 := 0) rfl wM_g0) hl.1 rfl rfl (lv_room (Nat.le_of_ble_eq_true rfl)) dX4_join_86) hH (fun r9 C8 H locs h hH => ?_)
          refine lv_iload hx hb dX4_join_89 (lv_at hl 0 rfl) ?_
          refine lv_iadd hx hb dX4_join_91 ?_
          refine lv_sipush (v := (400 : Int32)) hx hb dX4_join_92 (by decide) ?_
          refine lv_icmp_gt (tgt := 121) hx hb dX4_join_95 (by decide) (fun hc => ?_) (fun hc => ?_)
          · have h := h.1 hc
            exact k_X4_join_121 E  hH (lv_sub hl [2] rfl) h
          · have h := h.2 hc
            refine lv_aload_n hx hb dX4_join_98 rfl (lv_at hl 2 rfl) ?_
            refine x_get (ci := 4) (CN := RX4) (T := TX4) (N := 20) E in_X4 hH 0 wM_g0 rfl 0 (by decide) kf_X4_7 rfl dX4_join_99 ?_
            refine lv_sipush (v := (500 : Int32)) hx hb dX4_join_102 (by decide) ?_
            refine lv_icmp_eq (tgt := 121) hx hb dX4_join_105 (by decide) (fun hc => ?_) (fun hc => ?_)
            · have h := h.1 hc
              exact k_X4_join_121 E  hH (lv_sub hl [2] rfl) h
            · have h := h.2 hc
              refine lv_aload_n hx hb dX4_join_108 rfl (lv_at hl 2 rfl) ?_
              refine x_get (ci := 4) (CN := RX4) (T := TX4) (N := 20) E in_X4 hH 0 wM_g0 rfl 7 (by decide) kf_X4_89 rfl dX4_join_109 ?_
              refine lv_iload hx hb dX4_join_112 (lv_at hl 0 rfl) ?_
              refine lv_iadd hx hb dX4_join_114 ?_
              refine lv_sipush (v := (20000 : Int32)) hx hb dX4_join_115 (by decide) ?_
              refine lv_icmp_le (tgt := 128) hx hb dX4_join_118 (by decide) (fun hc => ?_) (fun hc => ?_)
              · have h := h.1 hc
                refine lv_aload_n hx hb dX4_join_128 rfl (lv_at hl 2 rfl) ?_
                refine lv_aload_n hx hb dX4_join_129 rfl (lv_at hl 2 rfl) ?_
                refine x_get (ci := 4) (CN := RX4) (T := TX4) (N := 20) E in_X4 hH 0 wM_g0 rfl 9 (by decide) kf_X4_34 rfl dX4_join_130 ?_
                refine lv_iload_n hx hb dX4_join_133 rfl (lv_at hl 3 rfl) ?_
                refine x_iald E hH 7 0 wM_g9 rfl hi3 dX4_join_134 ?_
                refine lv_aload_n hx hb dX4_join_135 rfl (lv_at hl 2 rfl) ?_
                refine lv_iload_n hx hb dX4_join_136 rfl (lv_at hl 3 rfl) ?_
                refine x_ci (x_runV (As := [.int x1]) (rest := [.int ((mr C8 9) (Int32.toNatClampNeg x1)), .ref (a 0)]) E (c_X4_size h) yk_X4_size yi_X4_size km_X4_68 ⟨Nat.le_of_ble_eq_true rfl, Nat.le_of_ble_eq_true rfl⟩ ⟨Nat.le_of_ble_eq_true rfl, Nat.le_of_ble_eq_true rfl⟩ hH (va_recv E.2.2.2.2.2.1 hH.1 (ci := 4) (q0 := 0) rfl wM_g0) hl.1 rfl rfl (lv_room (Nat.le_of_ble_eq_true rfl)) dX4_join_137) hH (fun r11 C10 H locs h hH => ?_)
                refine x_ci (x_runV (As := [.int ((mr C8 9) (Int32.toNatClampNeg x1)), .int r11]) (rest := []) E (c_X4_begin h) yk_X4_begin yi_X4_begin km_X4_92 ⟨Nat.le_of_ble_eq_true rfl, Nat.le_of_ble_eq_true rfl⟩ ⟨Nat.le_of_ble_eq_true rfl, Nat.le_of_ble_eq_true rfl⟩ hH (va_recv E.2.2.2.2.2.1 hH.1 (ci := 4) (q0 := 0) rfl wM_g0) hl.1 rfl rfl (lv_room (Nat.le_of_ble_eq_true rfl)) dX4_join_140) hH (fun r13 C12 H locs h hH => ?_)
                refine lv_istore (lv' := [(8, .int r13), (7, .int (x4 - x3)), (6, .int r5), (0, .ref (a 0)), (1, .int x1), (2, .int x2), (3, .int x3), (4, .int x4), (5, .int x5)]) hx hb dX4_join_143 hl (by decide) rfl (fun ls hl => ?_)
                refine lv_iload_n hx hb dX4_join_145 rfl (lv_at hl 6 rfl) ?_
                refine lv_istore (lv' := [(9, .int x3), (8, .int r13), (7, .int (x4 - x3)), (6, .int r5), (0, .ref (a 0)), (1, .int x1), (2, .int x2), (3, .int x3), (4, .int x4), (5, .int x5)]) hx hb dX4_join_146 hl (by decide) rfl (fun ls hl => ?_)
                obtain ⟨n, h⟩ := h
                exact k_X4_join_148 E  n hH (lv_sub hl [4, 6, 8, 9, 2, 1, 0] rfl) h
              · have h := h.2 hc
                exact k_X4_join_121 E  hH (lv_sub hl [2] rfl) h
        · have h := h.2 hc
          exact k_X4_join_62 E  hH (lv_sub hl [1, 0] rfl) h
    · have h := h.2 hc
      exact k_X4_join_22 E  hH (lv_sub hl [1, 0] rfl) h
end WALKS_M0
