section WALKS_C2
variable {p : Program} {l : Launch} {e : Env} {s : State} {m : MethodId} {args : Array Value} {below : List Frame} {meth : Method} {c : Code} {D : va_G} {cI cS cO : ClassId} {a ad : Nat → Nat} {A : Nat → Prop}
set_option maxHeartbeats 4000000 in
set_option maxRecDepth 100000 in
theorem c_X3_topBitOf {l : Launch} {D : va_G} {cI cS cO : ClassId} {a ad : Nat → Nat} {C : CS} {x1 : Int32} {post : Int32 → CS → Prop} (h : w_X3_topBitOf post C x1) : MetX l D (tyW cI cS cO) yX3_topBitOf cX3_topBitOf 2 (some .int) 0 0 0 [.ref (a 0), .int x1] (wC cI cO a ad C) (QI D (wC cI cO a ad) post) := by
  refine x_ent (by decide) (Nat.le_of_ble_eq_true rfl) ?_
  intro p e s m below meth c ls E _ hH hl
  have hx := E.1
  have hb := E.2.1
  generalize va_A (wC cI cO a ad C) s.heap.size = A at hH ⊢
  have hl : lv_has ls 2 [(0, .ref (a 0)), (1, .int x1)] := hl
  unfold w_X3_topBitOf at h
  refine lv_aload_n hx hb dX3_topBitOf_0 rfl (lv_at hl 0 rfl) ?_
  refine x_get (ci := 3) (CN := RX3) (T := TX3) (N := 11) E in_X3 hH 0 wC_g0 rfl 4 (by decide) kf_X3_18 rfl dX3_topBitOf_1 ?_
  refine lv_iload_n hx hb dX3_topBitOf_4 rfl (lv_at hl 1 rfl) ?_
  obtain ⟨hi1, h⟩ := h
  refine x_iald E hH 3 0 wC_g3 rfl hi1 dX3_topBitOf_5 ?_
  refine lv_iconst (v := (2 : Int32)) hx hb dX3_topBitOf_6 (by decide) ?_
  refine lv_icmp_ne (tgt := 15) hx hb dX3_topBitOf_7 (by decide) (fun hc => ?_) (fun hc => ?_)
  · have h := h.1 hc
    refine lv_bipush (v := (9 : Int32)) hx hb dX3_topBitOf_15 (by decide) ?_
    exact x_iret E hH h dX3_topBitOf_17
  · have h := h.2 hc
    refine lv_bipush (v := (7 : Int32)) hx hb dX3_topBitOf_10 (by decide) ?_
    refine lv_goto (tgt := 17) hx hb dX3_topBitOf_12 (by decide) ?_
    exact x_iret E hH h dX3_topBitOf_17
set_option maxHeartbeats 4000000 in
set_option maxRecDepth 100000 in
theorem c_X3_findingOfPlane {l : Launch} {D : va_G} {cI cS cO : ClassId} {a ad : Nat → Nat} {C : CS} {x1 : Int32} {x2 : Int32} {post : Int32 → CS → Prop} (h : w_X3_findingOfPlane post C x1 x2) : MetX l D (tyW cI cS cO) yX3_findingOfPlane cX3_findingOfPlane 4 (some .int) 2 0 0 [.ref (a 0), .int x1, .int x2] (wC cI cO a ad C) (QI D (wC cI cO a ad) post) := by
  refine x_ent (by decide) (Nat.le_of_ble_eq_true rfl) ?_
  intro p e s m below meth c ls E _ hH hl
  have hx := E.1
  have hb := E.2.1
  generalize va_A (wC cI cO a ad C) s.heap.size = A at hH ⊢
  have hl : lv_has ls 4 [(0, .ref (a 0)), (1, .int x1), (2, .int x2)] := hl
  unfold w_X3_findingOfPlane at h
  refine lv_aload_n hx hb dX3_findingOfPlane_0 rfl (lv_at hl 0 rfl) ?_
  refine lv_iload_n hx hb dX3_findingOfPlane_1 rfl (lv_at hl 1 rfl) ?_
  refine x_ci (x_runV (As := [.int x1]) (rest := []) E (c_X3_findingOfPlace h) yk_X3_findingOfPlace yi_X3_findingOfPlace km_X3_121 ⟨Nat.le_of_ble_eq_true rfl, Nat.le_of_ble_eq_true rfl⟩ ⟨Nat.le_of_ble_eq_true rfl, Nat.le_of_ble_eq_true rfl⟩ hH (va_recv E.2.2.2.2.2.1 hH.1 (ci := 3) (q0 := 0) rfl wC_g0) hl.1 rfl rfl (lv_room (Nat.le_of_ble_eq_true rfl)) dX3_findingOfPlane_2) hH (fun r2 C1 H locs h hH => ?_)
  refine lv_istore_n (lv' := [(3, .int r2), (0, .ref (a 0)), (1, .int x1), (2, .int x2)]) hx hb dX3_findingOfPlane_5 rfl hl (by decide) rfl (fun ls hl => ?_)
  refine lv_iload_n hx hb dX3_findingOfPlane_6 rfl (lv_at hl 0 rfl) ?_
  refine lv_if_eq (tgt := 12) hx hb dX3_findingOfPlane_7 (by decide) (fun hc => ?_) (fun hc => ?_)
  · have h := h.1 hc
    refine lv_aload_n hx hb dX3_findingOfPlane_12 rfl (lv_at hl 1 rfl) ?_
    refine x_get (ci := 3) (CN := RX3) (T := TX3) (N := 11) E in_X3 hH 0 wC_g0 rfl 4 (by decide) kf_X3_18 rfl dX3_findingOfPlane_13 ?_
    refine lv_iload_n hx hb dX3_findingOfPlane_16 rfl (lv_at hl 2 rfl) ?_
    obtain ⟨hi3, h⟩ := h
    refine x_iald E hH 3 0 wC_g3 rfl hi3 dX3_findingOfPlane_17 ?_
    refine lv_if_ne (tgt := 24) hx hb dX3_findingOfPlane_18 (by decide) (fun hc => ?_) (fun hc => ?_)
    · have h := h.1 hc
      refine lv_iload_n hx hb dX3_findingOfPlane_24 rfl (lv_at hl 3 rfl) ?_
      refine lv_if_lt (tgt := 37) hx hb dX3_findingOfPlane_25 (by decide) (fun hc => ?_) (fun hc => ?_)
      · have h := h.1 hc
        refine lv_iconst (v := (-1 : Int32)) hx hb dX3_findingOfPlane_37 (by decide) ?_
        refine lv_goto (tgt := 42) hx hb dX3_findingOfPlane_38 (by decide) ?_
        exact x_iret E hH h dX3_findingOfPlane_42
      · have h := h.2 hc
        refine lv_iload_n hx hb dX3_findingOfPlane_28 rfl (lv_at hl 3 rfl) ?_
        refine lv_aload_n hx hb dX3_findingOfPlane_29 rfl (lv_at hl 1 rfl) ?_
        refine lv_iload_n hx hb dX3_findingOfPlane_30 rfl (lv_at hl 2 rfl) ?_
        refine x_ci (x_runV (As := [.int x1]) (rest := [.int x2]) E (c_X3_topBitOf h) yk_X3_topBitOf yi_X3_topBitOf km_X3_143 ⟨Nat.le_of_ble_eq_true rfl, Nat.le_of_ble_eq_true rfl⟩ ⟨Nat.le_of_ble_eq_true rfl, Nat.le_of_ble_eq_true rfl⟩ hH (va_recv E.2.2.2.2.2.1 hH.1 (ci := 3) (q0 := 0) rfl wC_g0) hl.1 rfl rfl (lv_room (Nat.le_of_ble_eq_true rfl)) dX3_findingOfPlane_31) hH (fun r5 C4 H locs h hH => ?_)
        refine lv_icmp_le (tgt := 41) hx hb dX3_findingOfPlane_34 (by decide) (fun hc => ?_) (fun hc => ?_)
        · have h := h.1 hc
          refine lv_iconst (v := (0 : Int32)) hx hb dX3_findingOfPlane_41 (by decide) ?_
          exact x_iret E hH h dX3_findingOfPlane_42
        · have h := h.2 hc
          refine lv_iconst (v := (-1 : Int32)) hx hb dX3_findingOfPlane_37 (by decide) ?_
          refine lv_goto (tgt := 42) hx hb dX3_findingOfPlane_38 (by decide) ?_
          exact x_iret E hH h dX3_findingOfPlane_42
    · have h := h.2 hc
      refine lv_bipush (v := (-3 : Int32)) hx hb dX3_findingOfPlane_21 (by decide) ?_
      exact x_iret E hH h dX3_findingOfPlane_23
  · have h := h.2 hc
    refine lv_iload_n hx hb dX3_findingOfPlane_10 rfl (lv_at hl 0 rfl) ?_
    exact x_iret E hH h dX3_findingOfPlane_11
set_option maxHeartbeats 4000000 in
set_option maxRecDepth 100000 in
theorem c_X3_findingOfSpan {l : Launch} {D : va_G} {cI cS cO : ClassId} {a ad : Nat → Nat} {C : CS} {x1 : Int32} {x2 : Int32} {x3 : Int32} {post : Int32 → CS → Prop} (h : w_X3_findingOfSpan post C x1 x2 x3) : MetX l D (tyW cI cS cO) yX3_findingOfSpan cX3_findingOfSpan 5 (some .int) 2 0 0 [.ref (a 0), .int x1, .int x2, .int x3] (wC cI cO a ad C) (QI D (wC cI cO a ad) post) := by
  refine x_ent (by decide) (Nat.le_of_ble_eq_true rfl) ?_
  intro p e s m below meth c ls E _ hH hl
  have hx := E.1
  have hb := E.2.1
  generalize va_A (wC cI cO a ad C) s.heap.size = A at hH ⊢
  have hl : lv_has ls 5 [(0, .ref (a 0)), (1, .int x1), (2, .int x2), (3, .int x3)] := hl
  unfold w_X3_findingOfSpan at h
  refine lv_aload_n hx hb dX3_findingOfSpan_0 rfl (lv_at hl 0 rfl) ?_
  refine lv_iload_n hx hb dX3_findingOfSpan_1 rfl (lv_at hl 1 rfl) ?_
  refine x_ci (x_runV (As := [.int x1]) (rest := []) E (c_X3_findingOfPlace h) yk_X3_findingOfPlace yi_X3_findingOfPlace km_X3_121 ⟨Nat.le_of_ble_eq_true rfl, Nat.le_of_ble_eq_true rfl⟩ ⟨Nat.le_of_ble_eq_true rfl, Nat.le_of_ble_eq_true rfl⟩ hH (va_recv E.2.2.2.2.2.1 hH.1 (ci := 3) (q0 := 0) rfl wC_g0) hl.1 rfl rfl (lv_room (Nat.le_of_ble_eq_true rfl)) dX3_findingOfSpan_2) hH (fun r2 C1 H locs h hH => ?_)
  refine lv_istore (lv' := [(4, .int r2), (0, .ref (a 0)), (1, .int x1), (2, .int x2), (3, .int x3)]) hx hb dX3_findingOfSpan_5 hl (by decide) rfl (fun ls hl => ?_)
  refine lv_iload hx hb dX3_findingOfSpan_7 (lv_at hl 0 rfl) ?_
  refine lv_if_eq (tgt := 15) hx hb dX3_findingOfSpan_9 (by decide) (fun hc => ?_) (fun hc => ?_)
  · have h := h.1 hc
    refine lv_iload_n hx hb dX3_findingOfSpan_15 rfl (lv_at hl 4 rfl) ?_
    refine lv_iload_n hx hb dX3_findingOfSpan_16 rfl (lv_at hl 3 rfl) ?_
    refine lv_icmp_ge (tgt := 23) hx hb dX3_findingOfSpan_17 (by decide) (fun hc => ?_) (fun hc => ?_)
    · have h := h.1 hc
      refine lv_iload_n hx hb dX3_findingOfSpan_23 rfl (lv_at hl 3 rfl) ?_
      refine lv_if_lt (tgt := 40) hx hb dX3_findingOfSpan_24 (by decide) (fun hc => ?_) (fun hc => ?_)
      · have h := h.1 hc
        refine lv_iconst (v := (-1 : Int32)) hx hb dX3_findingOfSpan_40 (by decide) ?_
        refine lv_goto (tgt := 45) hx hb dX3_findingOfSpan_41 (by decide) ?_
        exact x_iret E hH h dX3_findingOfSpan_45
      · have h := h.2 hc
        refine lv_iload_n hx hb dX3_findingOfSpan_27 rfl (lv_at hl 4 rfl) ?_
        refine lv_aload_n hx hb dX3_findingOfSpan_28 rfl (lv_at hl 1 rfl) ?_
        refine x_get (ci := 3) (CN := RX3) (T := TX3) (N := 11) E in_X3 hH 0 wC_g0 rfl 3 (by decide) kf_X3_15 rfl dX3_findingOfSpan_29 ?_
        refine lv_iload_n hx hb dX3_findingOfSpan_32 rfl (lv_at hl 2 rfl) ?_
        obtain ⟨hi4, h⟩ := h
        refine x_aald E hH 2 2 wC_g2 rfl hi4 dX3_findingOfSpan_33 ?_
        refine q_top (ad := ad) (x := co C1 2 (Int32.toNatClampNeg x1)) (fun w3 ew3 => ?_)
        have h := h w3 ew3
        obtain ⟨v5, rfl, hv6, h⟩ := h
        refine x_getN (ci := 2) (CN := RX2) (T := TX2) (N := 9) E in_X2 hH (17 + 3 * v5) (wC_v0 hv6) rfl 3 (by decide) kfn_X3_66 rfl dX3_findingOfSpan_34 ?_
        refine lv_icmp_le (tgt := 44) hx hb dX3_findingOfSpan_37 (by decide) (fun hc => ?_) (fun hc => ?_)
        · have h := h.1 hc
          refine lv_iconst (v := (0 : Int32)) hx hb dX3_findingOfSpan_44 (by decide) ?_
          exact x_iret E hH h dX3_findingOfSpan_45
        · have h := h.2 hc
          refine lv_iconst (v := (-1 : Int32)) hx hb dX3_findingOfSpan_40 (by decide) ?_
          refine lv_goto (tgt := 45) hx hb dX3_findingOfSpan_41 (by decide) ?_
          exact x_iret E hH h dX3_findingOfSpan_45
    · have h := h.2 hc
      refine lv_bipush (v := (-4 : Int32)) hx hb dX3_findingOfSpan_20 (by decide) ?_
      exact x_iret E hH h dX3_findingOfSpan_22
  · have h := h.2 hc
    refine lv_iload hx hb dX3_findingOfSpan_12 (lv_at hl 0 rfl) ?_
    exact x_iret E hH h dX3_findingOfSpan_14
set_option maxHeartbeats 4000000 in
set_option maxRecDepth 100000 in
theorem c_X3_hasRoomFor {l : Launch} {D : va_G} {cI cS cO : ClassId} {a ad : Nat → Nat} {C : CS} {x1 : Int32} {post : Int32 → CS → Prop} (h : w_X3_hasRoomFor post C x1) : MetX l D (tyW cI cS cO) yX3_hasRoomFor cX3_hasRoomFor 2 (some .boolean) 0 0 0 [.ref (a 0), .int x1] (wC cI cO a ad C) (QI D (wC cI cO a ad) post) := by
  refine x_ent (by decide) (Nat.le_of_ble_eq_true rfl) ?_
  intro p e s m below meth c ls E _ hH hl
  have hx := E.1
  have hb := E.2.1
  generalize va_A (wC cI cO a ad C) s.heap.size = A at hH ⊢
  have hl : lv_has ls 2 [(0, .ref (a 0)), (1, .int x1)] := hl
  unfold w_X3_hasRoomFor at h
  refine lv_aload_n hx hb dX3_hasRoomFor_0 rfl (lv_at hl 0 rfl) ?_
  refine x_get (ci := 3) (CN := RX3) (T := TX3) (N := 11) E in_X3 hH 0 wC_g0 rfl 1 (by decide) kf_X3_48 rfl dX3_hasRoomFor_1 ?_
  refine lv_sipush (v := (500 : Int32)) hx hb dX3_hasRoomFor_4 (by decide) ?_
  refine lv_icmp_ge (tgt := 26) hx hb dX3_hasRoomFor_7 (by decide) (fun hc => ?_) (fun hc => ?_)
  · have h := h.1 hc
    refine lv_iconst (v := (0 : Int32)) hx hb dX3_hasRoomFor_26 (by decide) ?_
    exact x_zret E hH h rfl dX3_hasRoomFor_27
  · have h := h.2 hc
    refine lv_iload_n hx hb dX3_hasRoomFor_10 rfl (lv_at hl 1 rfl) ?_
    refine lv_sipush (v := (20000 : Int32)) hx hb dX3_hasRoomFor_11 (by decide) ?_
    refine lv_aload_n hx hb dX3_hasRoomFor_14 rfl (lv_at hl 0 rfl) ?_
    refine x_get (ci := 3) (CN := RX3) (T := TX3) (N := 11) E in_X3 hH 0 wC_g0 rfl 2 (by decide) kf_X3_118 rfl dX3_hasRoomFor_15 ?_
    refine lv_isub hx hb dX3_hasRoomFor_18 ?_
    refine lv_icmp_gt (tgt := 26) hx hb dX3_hasRoomFor_19 (by decide) (fun hc => ?_) (fun hc => ?_)
    · have h := h.1 hc
      refine lv_iconst (v := (0 : Int32)) hx hb dX3_hasRoomFor_26 (by decide) ?_
      exact x_zret E hH h rfl dX3_hasRoomFor_27
    · have h := h.2 hc
      refine lv_iconst (v := (1 : Int32)) hx hb dX3_hasRoomFor_22 (by decide) ?_
      refine lv_goto (tgt := 27) hx hb dX3_hasRoomFor_23 (by decide) ?_
      exact x_zret E hH h rfl dX3_hasRoomFor_27
set_option maxHeartbeats 4000000 in
set_option maxRecDepth 100000 in
theorem c_X3_showGrown {l : Launch} {D : va_G} {cI cS cO : ClassId} {a ad : Nat → Nat} {C : CS} {v1 : Nat} {x2 : Int32} {post : Int32 → CS → Prop} (h : w_X3_showGrown post C v1 x2) : MetX l D (tyW cI cS cO) yX3_showGrown cX3_showGrown 3 (some .int) 0 0 0 [.ref (a 0), .ref (ad (3 * v1)), .int x2] (wC cI cO a ad C) (QI D (wC cI cO a ad) post) := by
  refine x_ent (by decide) (Nat.le_of_ble_eq_true rfl) ?_
  intro p e s m below meth c ls E _ hH hl
  have hx := E.1
  have hb := E.2.1
  generalize va_A (wC cI cO a ad C) s.heap.size = A at hH ⊢
  have hl : lv_has ls 3 [(0, .ref (a 0)), (1, .ref (ad (3 * v1))), (2, .int x2)] := hl
  unfold w_X3_showGrown at h
  refine lv_aload_n hx hb dX3_showGrown_0 rfl (lv_at hl 0 rfl) ?_
  refine x_get (ci := 3) (CN := RX3) (T := TX3) (N := 11) E in_X3 hH 0 wC_g0 rfl 3 (by decide) kf_X3_15 rfl dX3_showGrown_1 ?_
  refine lv_iload_n hx hb dX3_showGrown_4 rfl (lv_at hl 2 rfl) ?_
  refine lv_aload_n hx hb dX3_showGrown_5 rfl (lv_at hl 1 rfl) ?_
  obtain ⟨hv1, h⟩ := h
  obtain ⟨hi2, h⟩ := h
  refine x_aast E hH 2 2 (17 + 3 * v1) wC_g2 rfl (wC_v0 hv1) hi2 wC_o2 dX3_showGrown_6 (fun H locs hH => ?_)
  refine lv_aload_n hx hb dX3_showGrown_7 rfl (lv_at hl 0 rfl) ?_
  refine x_get (ci := 3) (CN := RX3) (T := TX3) (N := 11) E in_X3 hH 0 wC_g0 rfl 4 (by decide) kf_X3_18 rfl dX3_showGrown_8 ?_
  refine lv_iload_n hx hb dX3_showGrown_11 rfl (lv_at hl 2 rfl) ?_
  refine lv_iconst (v := (0 : Int32)) hx hb dX3_showGrown_12 (by decide) ?_
  refine x_iast E hH 3 0 wC_g3 rfl hi2 wC_s3 dX3_showGrown_13 (fun H locs hH => ?_)
  refine lv_aload_n hx hb dX3_showGrown_14 rfl (lv_at hl 1 rfl) ?_
  refine x_getN (ci := 2) (CN := RX2) (T := TX2) (N := 9) E in_X2 hH (17 + 3 * v1) (wC_v0 hv1) rfl 0 (by decide) kfn_X3_105 rfl dX3_showGrown_15 ?_
  exact x_iret E hH h dX3_showGrown_18
set_option maxHeartbeats 4000000 in
set_option maxRecDepth 100000 in
theorem c_X3_layOutSpan {l : Launch} {D : va_G} {cI cS cO : ClassId} {a ad : Nat → Nat} {C : CS} {x1 : Int32} {x2 : Int32} {x3 : Int32} {post : Int32 → CS → Prop} (h : w_X3_layOutSpan post C x1 x2 x3) : MetX l D (tyW cI cS cO) yX3_layOutSpan cX3_layOutSpan 5 (some .int) 3 0 0 [.ref (a 0), .int x1, .int x2, .int x3] (wC cI cO a ad C) (QI D (wC cI cO a ad) post) := by
  refine x_ent (by decide) (Nat.le_of_ble_eq_true rfl) ?_
  intro p e s m below meth c ls E _ hH hl
  have hx := E.1
  have hb := E.2.1
  generalize va_A (wC cI cO a ad C) s.heap.size = A at hH ⊢
  have hl : lv_has ls 5 [(0, .ref (a 0)), (1, .int x1), (2, .int x2), (3, .int x3)] := hl
  unfold w_X3_layOutSpan at h
  refine lv_aload_n hx hb dX3_layOutSpan_0 rfl (lv_at hl 0 rfl) ?_
  refine lv_iload_n hx hb dX3_layOutSpan_1 rfl (lv_at hl 1 rfl) ?_
  refine lv_iload_n hx hb dX3_layOutSpan_2 rfl (lv_at hl 2 rfl) ?_
  refine lv_iload_n hx hb dX3_layOutSpan_3 rfl (lv_at hl 3 rfl) ?_
  refine x_ci (x_runV (As := [.int x1, .int x2, .int x3]) (rest := []) E (c_X3_findingOfSpan h) yk_X3_findingOfSpan yi_X3_findingOfSpan km_X3_84 ⟨Nat.le_of_ble_eq_true rfl, Nat.le_of_ble_eq_true rfl⟩ ⟨Nat.le_of_ble_eq_true rfl, Nat.le_of_ble_eq_true rfl⟩ hH (va_recv E.2.2.2.2.2.1 hH.1 (ci := 3) (q0 := 0) rfl wC_g0) hl.1 rfl rfl (lv_room (Nat.le_of_ble_eq_true rfl)) dX3_layOutSpan_4) hH (fun r2 C1 H locs h hH => ?_)
  refine lv_istore (lv' := [(4, .int r2), (0, .ref (a 0)), (1, .int x1), (2, .int x2), (3, .int x3)]) hx hb dX3_layOutSpan_7 hl (by decide) rfl (fun ls hl => ?_)
  refine lv_iload hx hb dX3_layOutSpan_9 (lv_at hl 0 rfl) ?_
  refine lv_if_ne (tgt := 27) hx hb dX3_layOutSpan_11 (by decide) (fun hc => ?_) (fun hc => ?_)
  · have h := h.1 hc
    refine lv_iload hx hb dX3_layOutSpan_27 (lv_at hl 0 rfl) ?_
    exact x_iret E hH h dX3_layOutSpan_29
  · have h := h.2 hc
    refine lv_aload_n hx hb dX3_layOutSpan_14 rfl (lv_at hl 1 rfl) ?_
    refine x_get (ci := 3) (CN := RX3) (T := TX3) (N := 11) E in_X3 hH 0 wC_g0 rfl 5 (by decide) kf_X3_25 rfl dX3_layOutSpan_15 ?_
    refine lv_aload_n hx hb dX3_layOutSpan_18 rfl (lv_at hl 1 rfl) ?_
    refine x_get (ci := 3) (CN := RX3) (T := TX3) (N := 11) E in_X3 hH 0 wC_g0 rfl 3 (by decide) kf_X3_15 rfl dX3_layOutSpan_19 ?_
    refine lv_iload_n hx hb dX3_layOutSpan_22 rfl (lv_at hl 2 rfl) ?_
    obtain ⟨hi4, h⟩ := h
    refine x_aald E hH 2 2 wC_g2 rfl hi4 dX3_layOutSpan_23 ?_
    refine q_top (ad := ad) (x := co C1 2 (Int32.toNatClampNeg x1)) (fun w3 ew3 => ?_)
    have h := h w3 ew3
    obtain ⟨v5, rfl, hv6, h⟩ := h
    refine x_cv (x_runVN (As := [.ref (ad (3 * v5))]) (rest := []) E (c_X0_layOut4 h) yk_X0_layOut yi_X0_layOut kmn_X3_88 ⟨Nat.le_of_ble_eq_true rfl, Nat.le_of_ble_eq_true rfl⟩ ⟨Nat.le_of_ble_eq_true rfl, Nat.le_of_ble_eq_true rfl⟩ hH (va_recv E.2.2.2.2.2.1 hH.1 (ci := 0) (q0 := 4) rfl wC_g4) hl.1 rfl rfl (lv_room (Nat.le_of_ble_eq_true rfl)) dX3_layOutSpan_24) hH (fun C7 H locs h hH => ?_)
    refine lv_iload hx hb dX3_layOutSpan_27 (lv_at hl 0 rfl) ?_
    exact x_iret E hH h dX3_layOutSpan_29
set_option maxHeartbeats 4000000 in
set_option maxRecDepth 100000 in
theorem c_X3_countSpan {l : Launch} {D : va_G} {cI cS cO : ClassId} {a ad : Nat → Nat} {C : CS} {x1 : Int32} {x2 : Int32} {x3 : Int32} {post : Int32 → CS → Prop} (h : w_X3_countSpan post C x1 x2 x3) : MetX l D (tyW cI cS cO) yX3_countSpan cX3_countSpan 5 (some .int) 4 0 0 [.ref (a 0), .int x1, .int x2, .int x3] (wC cI cO a ad C) (QI D (wC cI cO a ad) post) := by
  refine x_ent (by decide) (Nat.le_of_ble_eq_true rfl) ?_
  intro p e s m below meth c ls E _ hH hl
  have hx := E.1
  have hb := E.2.1
  generalize va_A (wC cI cO a ad C) s.heap.size = A at hH ⊢
  have hl : lv_has ls 5 [(0, .ref (a 0)), (1, .int x1), (2, .int x2), (3, .int x3)] := hl
  unfold w_X3_countSpan at h
  refine lv_aload_n hx hb dX3_countSpan_0 rfl (lv_at hl 0 rfl) ?_
  refine lv_iload_n hx hb dX3_countSpan_1 rfl (lv_at hl 1 rfl) ?_
  refine lv_iload_n hx hb dX3_countSpan_2 rfl (lv_at hl 2 rfl) ?_
  refine lv_iload_n hx hb dX3_countSpan_3 rfl (lv_at hl 3 rfl) ?_
  refine x_ci (x_runV (As := [.int x1, .int x2, .int x3]) (rest := []) E (c_X3_layOutSpan h) yk_X3_layOutSpan yi_X3_layOutSpan km_X3_140 ⟨Nat.le_of_ble_eq_true rfl, Nat.le_of_ble_eq_true rfl⟩ ⟨Nat.le_of_ble_eq_true rfl, Nat.le_of_ble_eq_true rfl⟩ hH (va_recv E.2.2.2.2.2.1 hH.1 (ci := 3) (q0 := 0) rfl wC_g0) hl.1 rfl rfl (lv_room (Nat.le_of_ble_eq_true rfl)) dX3_countSpan_4) hH (fun r2 C1 H locs h hH => ?_)
  refine lv_istore (lv' := [(4, .int r2), (0, .ref (a 0)), (1, .int x1), (2, .int x2), (3, .int x3)]) hx hb dX3_countSpan_7 hl (by decide) rfl (fun ls hl => ?_)
  refine lv_iload hx hb dX3_countSpan_9 (lv_at hl 0 rfl) ?_
  refine lv_if_ne (tgt := 35) hx hb dX3_countSpan_11 (by decide) (fun hc => ?_) (fun hc => ?_)
  · have h := h.1 hc
    refine lv_iload hx hb dX3_countSpan_35 (lv_at hl 0 rfl) ?_
    exact x_iret E hH h dX3_countSpan_37
  · have h := h.2 hc
    refine lv_aload_n hx hb dX3_countSpan_14 rfl (lv_at hl 1 rfl) ?_
    refine x_get (ci := 3) (CN := RX3) (T := TX3) (N := 11) E in_X3 hH 0 wC_g0 rfl 7 (by decide) kf_X3_35 rfl dX3_countSpan_15 ?_
    refine x_cv (x_runVN (As := []) (rest := []) E (c_X1_clear h) yk_X1_clear yi_X1_clear kmn_X3_179 ⟨Nat.le_of_ble_eq_true rfl, Nat.le_of_ble_eq_true rfl⟩ ⟨Nat.le_of_ble_eq_true rfl, Nat.le_of_ble_eq_true rfl⟩ hH (va_recv E.2.2.2.2.2.1 hH.1 (ci := 1) (q0 := 12) rfl wC_g12) hl.1 rfl rfl (lv_room (Nat.le_of_ble_eq_true rfl)) dX3_countSpan_18) hH (fun C3 H locs h hH => ?_)
    refine lv_aload_n hx hb dX3_countSpan_21 rfl (lv_at hl 1 rfl) ?_
    refine x_get (ci := 3) (CN := RX3) (T := TX3) (N := 11) E in_X3 hH 0 wC_g0 rfl 7 (by decide) kf_X3_35 rfl dX3_countSpan_22 ?_
    refine lv_aload_n hx hb dX3_countSpan_25 rfl (lv_at hl 1 rfl) ?_
    refine x_get (ci := 3) (CN := RX3) (T := TX3) (N := 11) E in_X3 hH 0 wC_g0 rfl 5 (by decide) kf_X3_25 rfl dX3_countSpan_26 ?_
    refine lv_iload_n hx hb dX3_countSpan_29 rfl (lv_at hl 3 rfl) ?_
    refine lv_iload_n hx hb dX3_countSpan_30 rfl (lv_at hl 4 rfl) ?_
    refine lv_iconst (v := (1 : Int32)) hx hb dX3_countSpan_31 (by decide) ?_
    refine x_cv (x_runVN (As := [.ref (a 4), .int x2, .int x3, .int (1 : Int32)]) (rest := []) E (c_X1_count4 h) yk_X1_count yi_X1_count kmn_X3_182 ⟨Nat.le_of_ble_eq_true rfl, Nat.le_of_ble_eq_true rfl⟩ ⟨Nat.le_of_ble_eq_true rfl, Nat.le_of_ble_eq_true rfl⟩ hH (va_recv E.2.2.2.2.2.1 hH.1 (ci := 1) (q0 := 12) rfl wC_g12) hl.1 rfl rfl (lv_room (Nat.le_of_ble_eq_true rfl)) dX3_countSpan_32) hH (fun C5 H locs h hH => ?_)
    refine lv_iload hx hb dX3_countSpan_35 (lv_at hl 0 rfl) ?_
    exact x_iret E hH h dX3_countSpan_37
set_option maxHeartbeats 4000000 in
set_option maxRecDepth 100000 in
theorem k_X3_layOutPlane_22b {post : Int32 → CS → Prop} (E : Cx p s m args meth c cX3_layOutPlane 5 RX3 (some .int) D (tyW cI cS cO))  {K22 : CS → Int32 → Int32 → Int32 → Prop} (hK22 : ∀ (C : CS) (x2 : Int32) (x3 : Int32) (x4 : Int32) (H : Heap) (locs : List Loc) (ls : Array Slot), HX D (wC cI cO a ad C) A s.heap H locs → lv_has ls 5 [(0, .ref (a 0)), (2, .int x2), (3, .int x3), (4, .int x4)] → K22 C x2 x3 x4 → W p l e (rmA 2 0 0) s m args below meth c H locs 0 0 (MQ below ((QI D (wC cI cO a ad) post) A) args s 0 0 A) (F0 m 22 ls [])) {C : CS} {x2 : Int32} {x3 : Int32} {x4 : Int32} {H : Heap} {locs : List Loc} {ls : Array Slot} (hH : HX D (wC cI cO a ad C) A s.heap H locs) (hl : lv_has ls 5 [(0, .ref (a 0)), (2, .int x2), (3, .int x3), (4, .int x4)]) (h : w_X3_layOutPlane_22b post K22 C x2 x3 x4) : W p l e (rmA 2 0 0) s m args below meth c H locs 0 0 (MQ below ((QI D (wC cI cO a ad) post) A) args s 0 0 A) (F0 m 22 ls []) := by
  have hx := E.1
  have hb := E.2.1
  unfold w_X3_layOutPlane_22b at h
  refine lv_iload hx hb dX3_layOutPlane_22 (lv_at hl 3 rfl) ?_
  refine lv_iload_n hx hb dX3_layOutPlane_24 rfl (lv_at hl 1 rfl) ?_
  refine lv_icmp_ge (tgt := 45) hx hb dX3_layOutPlane_25 (by decide) (fun hc => ?_) (fun hc => ?_)
  · have h := h.1 hc
    refine lv_iload_n hx hb dX3_layOutPlane_45 rfl (lv_at hl 2 rfl) ?_
    refine lv_iload_n hx hb dX3_layOutPlane_46 rfl (lv_at hl 1 rfl) ?_
    refine lv_isub hx hb dX3_layOutPlane_47 ?_
    exact x_iret E hH h dX3_layOutPlane_48
  · have h := h.2 hc
    refine lv_aload_n hx hb dX3_layOutPlane_28 rfl (lv_at hl 0 rfl) ?_
    refine x_get (ci := 3) (CN := RX3) (T := TX3) (N := 11) E in_X3 hH 0 wC_g0 rfl 5 (by decide) kf_X3_25 rfl dX3_layOutPlane_29 ?_
    refine lv_iload_n hx hb dX3_layOutPlane_32 rfl (lv_at hl 2 rfl) ?_
    refine lv_iload hx hb dX3_layOutPlane_33 (lv_at hl 3 rfl) ?_
    refine lv_isub hx hb dX3_layOutPlane_35 ?_
    refine x_cv (x_runVN (As := [.int (x3 - x4)]) (rest := []) E (c_X0_splitBy h) yk_X0_splitBy yi_X0_splitBy kmn_X3_196 ⟨Nat.le_of_ble_eq_true rfl, Nat.le_of_ble_eq_true rfl⟩ ⟨Nat.le_of_ble_eq_true rfl, Nat.le_of_ble_eq_true rfl⟩ hH (va_recv E.2.2.2.2.2.1 hH.1 (ci := 0) (q0 := 4) rfl wC_g4) hl.1 rfl rfl (lv_room (Nat.le_of_ble_eq_true rfl)) dX3_layOutPlane_36) hH (fun C10 H locs h hH => ?_)
    refine lv_iinc (v := (x4 + 1)) (lv' := [(4, .int (x4 + 1)), (0, .ref (a 0)), (2, .int x2), (3, .int x3)]) hx hb dX3_layOutPlane_39 hl (k := 3) rfl rfl (by decide) rfl (fun ls hl => ?_)
    refine lv_goto (tgt := 22) hx hb dX3_layOutPlane_42 (by decide) ?_
    exact hK22 _ _ _ _ _ _ _ hH (lv_sub hl [1, 2, 3, 0] rfl) h
theorem k_X3_layOutPlane_22 {post : Int32 → CS → Prop} (E : Cx p s m args meth c cX3_layOutPlane 5 RX3 (some .int) D (tyW cI cS cO))  (n : Nat) : ∀ {C : CS} {x2 : Int32} {x3 : Int32} {x4 : Int32} {H : Heap} {locs : List Loc} {ls : Array Slot} (hH : HX D (wC cI cO a ad C) A s.heap H locs) (hl : lv_has ls 5 [(0, .ref (a 0)), (2, .int x2), (3, .int x3), (4, .int x4)]) (h : w_X3_layOutPlane_22 post n C x2 x3 x4), W p l e (rmA 2 0 0) s m args below meth c H locs 0 0 (MQ below ((QI D (wC cI cO a ad) post) A) args s 0 0 A) (F0 m 22 ls []) := by
  induction n with
  | zero => intros; contradiction
  | succ n ih => intro C x2 x3 x4 H locs ls hH hl h; exact k_X3_layOutPlane_22b E  (fun C x2 x3 x4 H locs ls hH hl h => ih hH hl h) hH hl h
set_option maxHeartbeats 4000000 in
set_option maxRecDepth 100000 in
theorem c_X3_layOutPlane {l : Launch} {D : va_G} {cI cS cO : ClassId} {a ad : Nat → Nat} {C : CS} {x1 : Int32} {x2 : Int32} {post : Int32 → CS → Prop} (h : w_X3_layOutPlane post C x1 x2) : MetX l D (tyW cI cS cO) yX3_layOutPlane cX3_layOutPlane 5 (some .int) 2 0 0 [.ref (a 0), .int x1, .int x2] (wC cI cO a ad C) (QI D (wC cI cO a ad) post) := by
  refine x_ent (by decide) (Nat.le_of_ble_eq_true rfl) ?_
  intro p e s m below meth c ls E _ hH hl
  have hx := E.1
  have hb := E.2.1
  generalize va_A (wC cI cO a ad C) s.heap.size = A at hH ⊢
  have hl : lv_has ls 5 [(0, .ref (a 0)), (1, .int x1), (2, .int x2)] := hl
  unfold w_X3_layOutPlane at h
  refine lv_aload_n hx hb dX3_layOutPlane_0 rfl (lv_at hl 0 rfl) ?_
  refine lv_iload_n hx hb dX3_layOutPlane_1 rfl (lv_at hl 1 rfl) ?_
  refine x_ci (x_runV (As := [.int x1]) (rest := []) E (c_X3_topBitOf h) yk_X3_topBitOf yi_X3_topBitOf km_X3_143 ⟨Nat.le_of_ble_eq_true rfl, Nat.le_of_ble_eq_true rfl⟩ ⟨Nat.le_of_ble_eq_true rfl, Nat.le_of_ble_eq_true rfl⟩ hH (va_recv E.2.2.2.2.2.1 hH.1 (ci := 3) (q0 := 0) rfl wC_g0) hl.1 rfl rfl (lv_room (Nat.le_of_ble_eq_true rfl)) dX3_layOutPlane_2) hH (fun r2 C1 H locs h hH => ?_)
  refine lv_istore_n (lv' := [(3, .int r2), (0, .ref (a 0)), (1, .int x1), (2, .int x2)]) hx hb dX3_layOutPlane_5 rfl hl (by decide) rfl (fun ls hl => ?_)
  refine lv_aload_n hx hb dX3_layOutPlane_6 rfl (lv_at hl 1 rfl) ?_
  refine x_get (ci := 3) (CN := RX3) (T := TX3) (N := 11) E in_X3 hH 0 wC_g0 rfl 5 (by decide) kf_X3_25 rfl dX3_layOutPlane_7 ?_
  refine lv_aload_n hx hb dX3_layOutPlane_10 rfl (lv_at hl 1 rfl) ?_
  refine x_get (ci := 3) (CN := RX3) (T := TX3) (N := 11) E in_X3 hH 0 wC_g0 rfl 3 (by decide) kf_X3_15 rfl dX3_layOutPlane_11 ?_
  refine lv_iload_n hx hb dX3_layOutPlane_14 rfl (lv_at hl 2 rfl) ?_
  obtain ⟨hi4, h⟩ := h
  refine x_aald E hH 2 2 wC_g2 rfl hi4 dX3_layOutPlane_15 ?_
  refine q_top (ad := ad) (x := co C1 2 (Int32.toNatClampNeg x1)) (fun w3 ew3 => ?_)
  have h := h w3 ew3
  obtain ⟨v5, rfl, hv6, h⟩ := h
  refine x_cv (x_runVN (As := [.ref (ad (3 * v5))]) (rest := []) E (c_X0_layOut4 h) yk_X0_layOut yi_X0_layOut kmn_X3_88 ⟨Nat.le_of_ble_eq_true rfl, Nat.le_of_ble_eq_true rfl⟩ ⟨Nat.le_of_ble_eq_true rfl, Nat.le_of_ble_eq_true rfl⟩ hH (va_recv E.2.2.2.2.2.1 hH.1 (ci := 0) (q0 := 4) rfl wC_g4) hl.1 rfl rfl (lv_room (Nat.le_of_ble_eq_true rfl)) dX3_layOutPlane_16) hH (fun C7 H locs h hH => ?_)
  refine lv_iconst (v := (0 : Int32)) hx hb dX3_layOutPlane_19 (by decide) ?_
  refine lv_istore (lv' := [(4, .int (0 : Int32)), (3, .int r2), (0, .ref (a 0)), (1, .int x1), (2, .int x2)]) hx hb dX3_layOutPlane_20 hl (by decide) rfl (fun ls hl => ?_)
  obtain ⟨n, h⟩ := h
  exact k_X3_layOutPlane_22 E  n hH (lv_sub hl [2, 4, 1, 0] rfl) h
set_option maxHeartbeats 4000000 in
set_option maxRecDepth 100000 in
theorem k_X3_goDown_75 {post : Int32 → CS → Prop} (E : Cx p s m args meth c cX3_goDown 10 RX3 (some .int) D (tyW cI cS cO)) {K9 : CS → Int32 → Int32 → Int32 → Int32 → Int32 → Int32 → Prop} (hK9 : ∀ (C : CS) (x1 : Int32) (x2 : Int32) (x4 : Int32) (x5 : Int32) (x6 : Int32) (x7 : Int32) (H : Heap) (locs : List Loc) (ls : Array Slot), HX D (wC cI cO a ad C) A s.heap H locs → lv_has ls 10 [(0, .ref (a 0)), (1, .int x1), (2, .int x2), (4, .int x4), (5, .int x5), (6, .int x6), (7, .int x7)] → K9 C x1 x2 x4 x5 x6 x7 → W p l e (rmA 1 0 0) s m args below meth c H locs 0 0 (MQ below ((QI D (wC cI cO a ad) post) A) args s 0 0 A) (F0 m 9 ls [])) {C : CS} {x1 : Int32} {x2 : Int32} {x4 : Int32} {x5 : Int32} {x6 : Int32} {x7 : Int32} {H : Heap} {locs : List Loc} {ls : Array Slot} (hH : HX D (wC cI cO a ad C) A s.heap H locs) (hl : lv_has ls 10 [(0, .ref (a 0)), (1, .int x1), (2, .int x2), (4, .int x4), (5, .int x5), (6, .int x6), (7, .int x7)]) (h : w_X3_goDown_75 post K9 C x1 x2 x4 x5 x6 x7) : W p l e (rmA 1 0 0) s m args below meth c H locs 0 0 (MQ below ((QI D (wC cI cO a ad) post) A) args s 0 0 A) (F0 m 75 ls []) := by
  have hx := E.1
  have hb := E.2.1
  unfold w_X3_goDown_75 at h
  refine lv_iinc (v := (x7 + 1)) (lv' := [(7, .int (x7 + 1)), (0, .ref (a 0)), (1, .int x1), (2, .int x2), (4, .int x4), (5, .int x5), (6, .int x6)]) hx hb dX3_goDown_75 hl (k := 6) rfl rfl (by decide) rfl (fun ls hl => ?_)
  refine lv_goto (tgt := 9) hx hb dX3_goDown_78 (by decide) ?_
  exact hK9 _ _ _ _ _ _ _ _ _ _ hH (lv_sub hl [1, 2, 3, 4, 5, 6, 0] rfl) h
set_option maxHeartbeats 4000000 in
set_option maxRecDepth 100000 in
theorem k_X3_goDown_9b {post : Int32 → CS → Prop} (E : Cx p s m args meth c cX3_goDown 10 RX3 (some .int) D (tyW cI cS cO))  {K9 : CS → Int32 → Int32 → Int32 → Int32 → Int32 → Int32 → Prop} (hK9 : ∀ (C : CS) (x1 : Int32) (x2 : Int32) (x4 : Int32) (x5 : Int32) (x6 : Int32) (x7 : Int32) (H : Heap) (locs : List Loc) (ls : Array Slot), HX D (wC cI cO a ad C) A s.heap H locs → lv_has ls 10 [(0, .ref (a 0)), (1, .int x1), (2, .int x2), (4, .int x4), (5, .int x5), (6, .int x6), (7, .int x7)] → K9 C x1 x2 x4 x5 x6 x7 → W p l e (rmA 1 0 0) s m args below meth c H locs 0 0 (MQ below ((QI D (wC cI cO a ad) post) A) args s 0 0 A) (F0 m 9 ls [])) {C : CS} {x1 : Int32} {x2 : Int32} {x4 : Int32} {x5 : Int32} {x6 : Int32} {x7 : Int32} {H : Heap} {locs : List Loc} {ls : Array Slot} (hH : HX D (wC cI cO a ad C) A s.heap H locs) (hl : lv_has ls 10 [(0, .ref (a 0)), (1, .int x1), (2, .int x2), (4, .int x4), (5, .int x5), (6, .int x6), (7, .int x7)]) (h : w_X3_goDown_9b post K9 C x1 x2 x4 x5 x6 x7) : W p l e (rmA 1 0 0) s m args below meth c H locs 0 0 (MQ below ((QI D (wC cI cO a ad) post) A) args s 0 0 A) (F0 m 9 ls []) := by
  have hx := E.1
  have hb := E.2.1
  unfold w_X3_goDown_9b at h
  refine lv_iload hx hb dX3_goDown_9 (lv_at hl 6 rfl) ?_
  refine lv_iload hx hb dX3_goDown_11 (lv_at hl 3 rfl) ?_
  refine lv_icmp_gt (tgt := 81) hx hb dX3_goDown_13 (by decide) (fun hc => ?_) (fun hc => ?_)
  · have h := h.1 hc
    refine lv_aload_n hx hb dX3_goDown_81 rfl (lv_at hl 0 rfl) ?_
    refine lv_iload hx hb dX3_goDown_82 (lv_at hl 3 rfl) ?_
    refine lv_iconst (v := (1 : Int32)) hx hb dX3_goDown_84 (by decide) ?_
    refine lv_iadd hx hb dX3_goDown_85 ?_
    refine x_puti (ci := 3) (CN := RX3) (T := TX3) (N := 11) E in_X3 tyX3 tyX3_ok nmX3 hH 0 wC_g0 rfl 9 (by decide) kf_X3_193 rfl (by decide +kernel) (Nat.le_of_ble_eq_true rfl) wC_z2 dX3_goDown_86 (fun H locs hH => ?_)
    refine lv_iload hx hb dX3_goDown_89 (lv_at hl 4 rfl) ?_
    exact x_iret E hH h dX3_goDown_91
  · have h := h.2 hc
    refine lv_iconst (v := (1 : Int32)) hx hb dX3_goDown_16 (by decide) ?_
    refine lv_iload hx hb dX3_goDown_17 (lv_at hl 3 rfl) ?_
    refine lv_iload hx hb dX3_goDown_19 (lv_at hl 6 rfl) ?_
    refine lv_isub hx hb dX3_goDown_21 ?_
    refine lv_ishl hx hb dX3_goDown_22 ?_
    refine lv_istore (lv' := [(8, .int ((1 : Int32) <<< ((x4 - x7) &&& 31))), (0, .ref (a 0)), (1, .int x1), (2, .int x2), (4, .int x4), (5, .int x5), (6, .int x6), (7, .int x7)]) hx hb dX3_goDown_23 hl (by decide) rfl (fun ls hl => ?_)
    refine lv_aload_n hx hb dX3_goDown_25 rfl (lv_at hl 1 rfl) ?_
    refine x_get (ci := 3) (CN := RX3) (T := TX3) (N := 11) E in_X3 hH 0 wC_g0 rfl 5 (by decide) kf_X3_25 rfl dX3_goDown_26 ?_
    refine lv_iload_n hx hb dX3_goDown_29 rfl (lv_at hl 2 rfl) ?_
    refine lv_iload_n hx hb dX3_goDown_30 rfl (lv_at hl 3 rfl) ?_
    refine lv_iload hx hb dX3_goDown_31 (lv_at hl 5 rfl) ?_
    refine lv_iload hx hb dX3_goDown_33 (lv_at hl 5 rfl) ?_
    refine lv_iload hx hb dX3_goDown_35 (lv_at hl 0 rfl) ?_
    refine lv_iadd hx hb dX3_goDown_37 ?_
    refine lv_iconst (v := (1 : Int32)) hx hb dX3_goDown_38 (by decide) ?_
    refine lv_isub hx hb dX3_goDown_39 ?_
    refine x_ci (x_runVN (As := [.int x1, .int x2, .int x5, .int ((x5 + ((1 : Int32) <<< ((x4 - x7) &&& 31))) - (1 : Int32))]) (rest := []) E (c_X0_countWithin h) yk_X0_countWithin yi_X0_countWithin kmn_X3_153 ⟨Nat.le_of_ble_eq_true rfl, Nat.le_of_ble_eq_true rfl⟩ ⟨Nat.le_of_ble_eq_true rfl, Nat.le_of_ble_eq_true rfl⟩ hH (va_recv E.2.2.2.2.2.1 hH.1 (ci := 0) (q0 := 4) rfl wC_g4) hl.1 rfl rfl (lv_room (Nat.le_of_ble_eq_true rfl)) dX3_goDown_40) hH (fun r3 C2 H locs h hH => ?_)
    refine lv_istore (lv' := [(9, .int r3), (8, .int ((1 : Int32) <<< ((x4 - x7) &&& 31))), (0, .ref (a 0)), (1, .int x1), (2, .int x2), (4, .int x4), (5, .int x5), (6, .int x6), (7, .int x7)]) hx hb dX3_goDown_43 hl (by decide) rfl (fun ls hl => ?_)
    refine lv_aload_n hx hb dX3_goDown_45 rfl (lv_at hl 2 rfl) ?_
    refine x_get (ci := 3) (CN := RX3) (T := TX3) (N := 11) E in_X3 hH 0 wC_g0 rfl 8 (by decide) kf_X3_39 rfl dX3_goDown_46 ?_
    refine lv_iload hx hb dX3_goDown_49 (lv_at hl 8 rfl) ?_
    refine lv_iload hx hb dX3_goDown_51 (lv_at hl 0 rfl) ?_
    obtain ⟨hi4, h⟩ := h
    refine x_iast E hH 15 0 wC_g15 rfl hi4 wC_s15 dX3_goDown_53 (fun H locs hH => ?_)
    refine lv_iload hx hb dX3_goDown_54 (lv_at hl 7 rfl) ?_
    refine lv_iload hx hb dX3_goDown_56 (lv_at hl 0 rfl) ?_
    refine lv_icmp_lt (tgt := 75) hx hb dX3_goDown_58 (by decide) (fun hc => ?_) (fun hc => ?_)
    · have h := h.1 hc
      exact k_X3_goDown_75 E hK9 hH (lv_sub hl [2, 3, 4, 5, 6, 7, 8] rfl) h
    · have h := h.2 hc
      refine lv_iload hx hb dX3_goDown_61 (lv_at hl 7 rfl) ?_
      refine lv_iload hx hb dX3_goDown_63 (lv_at hl 0 rfl) ?_
      refine lv_isub hx hb dX3_goDown_65 ?_
      refine lv_istore (lv' := [(6, .int (x6 - r3)), (9, .int r3), (8, .int ((1 : Int32) <<< ((x4 - x7) &&& 31))), (0, .ref (a 0)), (1, .int x1), (2, .int x2), (4, .int x4), (5, .int x5), (7, .int x7)]) hx hb dX3_goDown_66 hl (by decide) rfl (fun ls hl => ?_)
      refine lv_iload hx hb dX3_goDown_68 (lv_at hl 7 rfl) ?_
      refine lv_iload hx hb dX3_goDown_70 (lv_at hl 2 rfl) ?_
      refine lv_iadd hx hb dX3_goDown_72 ?_
      refine lv_istore (lv' := [(5, .int (x5 + ((1 : Int32) <<< ((x4 - x7) &&& 31)))), (6, .int (x6 - r3)), (9, .int r3), (8, .int ((1 : Int32) <<< ((x4 - x7) &&& 31))), (0, .ref (a 0)), (1, .int x1), (2, .int x2), (4, .int x4), (7, .int x7)]) hx hb dX3_goDown_73 hl (by decide) rfl (fun ls hl => ?_)
      exact k_X3_goDown_75 E hK9 hH (lv_sub hl [4, 5, 6, 7, 0, 1, 8] rfl) h
theorem k_X3_goDown_9 {post : Int32 → CS → Prop} (E : Cx p s m args meth c cX3_goDown 10 RX3 (some .int) D (tyW cI cS cO))  (n : Nat) : ∀ {C : CS} {x1 : Int32} {x2 : Int32} {x4 : Int32} {x5 : Int32} {x6 : Int32} {x7 : Int32} {H : Heap} {locs : List Loc} {ls : Array Slot} (hH : HX D (wC cI cO a ad C) A s.heap H locs) (hl : lv_has ls 10 [(0, .ref (a 0)), (1, .int x1), (2, .int x2), (4, .int x4), (5, .int x5), (6, .int x6), (7, .int x7)]) (h : w_X3_goDown_9 post n C x1 x2 x4 x5 x6 x7), W p l e (rmA 1 0 0) s m args below meth c H locs 0 0 (MQ below ((QI D (wC cI cO a ad) post) A) args s 0 0 A) (F0 m 9 ls []) := by
  induction n with
  | zero => intros; contradiction
  | succ n ih => intro C x1 x2 x4 x5 x6 x7 H locs ls hH hl h; exact k_X3_goDown_9b E  (fun C x1 x2 x4 x5 x6 x7 H locs ls hH hl h => ih hH hl h) hH hl h
set_option maxHeartbeats 4000000 in
set_option maxRecDepth 100000 in
theorem c_X3_goDown {l : Launch} {D : va_G} {cI cS cO : ClassId} {a ad : Nat → Nat} {C : CS} {x1 : Int32} {x2 : Int32} {x3 : Int32} {x4 : Int32} {post : Int32 → CS → Prop} (h : w_X3_goDown post C x1 x2 x3 x4) : MetX l D (tyW cI cS cO) yX3_goDown cX3_goDown 10 (some .int) 1 0 0 [.ref (a 0), .int x1, .int x2, .int x3, .int x4] (wC cI cO a ad C) (QI D (wC cI cO a ad) post) := by
  refine x_ent (by decide) (Nat.le_of_ble_eq_true rfl) ?_
  intro p e s m below meth c ls E _ hH hl
  have hx := E.1
  have hb := E.2.1
  generalize va_A (wC cI cO a ad C) s.heap.size = A at hH ⊢
  have hl : lv_has ls 10 [(0, .ref (a 0)), (1, .int x1), (2, .int x2), (3, .int x3), (4, .int x4)] := hl
  unfold w_X3_goDown at h
  refine lv_iconst (v := (0 : Int32)) hx hb dX3_goDown_0 (by decide) ?_
  refine lv_istore (lv' := [(5, .int (0 : Int32)), (0, .ref (a 0)), (1, .int x1), (2, .int x2), (3, .int x3), (4, .int x4)]) hx hb dX3_goDown_1 hl (by decide) rfl (fun ls hl => ?_)
  refine lv_iload_n hx hb dX3_goDown_3 rfl (lv_at hl 4 rfl) ?_
  refine lv_istore (lv' := [(6, .int x3), (5, .int (0 : Int32)), (0, .ref (a 0)), (1, .int x1), (2, .int x2), (3, .int x3), (4, .int x4)]) hx hb dX3_goDown_4 hl (by decide) rfl (fun ls hl => ?_)
  refine lv_iconst (v := (0 : Int32)) hx hb dX3_goDown_6 (by decide) ?_
  refine lv_istore (lv' := [(7, .int (0 : Int32)), (6, .int x3), (5, .int (0 : Int32)), (0, .ref (a 0)), (1, .int x1), (2, .int x2), (3, .int x3), (4, .int x4)]) hx hb dX3_goDown_7 hl (by decide) rfl (fun ls hl => ?_)
  obtain ⟨n, h⟩ := h
  exact k_X3_goDown_9 E  n hH (lv_sub hl [3, 4, 5, 7, 2, 1, 0] rfl) h
end WALKS_C2
