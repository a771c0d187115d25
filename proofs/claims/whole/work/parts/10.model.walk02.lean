section WALKS_M2
variable {p : Program} {l : Launch} {e : Env} {s : State} {m : MethodId} {args : Array Value} {below : List Frame} {meth : Method} {c : Code} {D : va_G} {cI cS cO : ClassId} {a ad : Nat → Nat} {A : Nat → Prop}
set_option maxHeartbeats 4000000 in
set_option maxRecDepth 100000 in
theorem k_X4_put_76 {post : Int32 → MS → Prop} (E : Cx p s m args meth c cX4_put 4 RX4 (some .int) D (tyW cI cS cO))  {C : MS} {x2 : Int32} {H : Heap} {locs : List Loc} {ls : Array Slot} (hH : HX D (wM cI cS a C) A s.heap H locs) (hl : lv_has ls 4 [(0, .ref (a 0)), (2, .int x2)]) (h : w_X4_put_76 post C x2) : W p l e (rmA 2 0 0) s m args below meth c H locs 0 0 (MQ below ((QI D (wM cI cS a) post) A) args s 0 0 A) (F0 m 76 ls []) := by
  have hx := E.1
  have hb := E.2.1
  unfold w_X4_put_76 at h
  refine lv_aload_n hx hb dX4_put_76 rfl (lv_at hl 0 rfl) ?_
  refine x_get (ci := 4) (CN := RX4) (T := TX4) (N := 20) E in_X4 hH 0 wM_g0 rfl 8 (by decide) kf_X4_31 rfl dX4_put_77 ?_
  refine lv_iload_n hx hb dX4_put_80 rfl (lv_at hl 1 rfl) ?_
  obtain ⟨hi9, h⟩ := h
  refine x_iald E hH 6 0 wM_g8 rfl hi9 dX4_put_81 ?_
  refine lv_iconst (v := (1 : Int32)) hx hb dX4_put_82 (by decide) ?_
  refine lv_isub hx hb dX4_put_83 ?_
  exact x_iret E hH h dX4_put_84
set_option maxHeartbeats 4000000 in
set_option maxRecDepth 100000 in
theorem k_X4_put_27 {post : Int32 → MS → Prop} (E : Cx p s m args meth c cX4_put 4 RX4 (some .int) D (tyW cI cS cO))  {C : MS} {s0 : Int32} {H : Heap} {locs : List Loc} {ls : Array Slot} (hH : HX D (wM cI cS a C) A s.heap H locs) (hl : lv_has ls 4 []) (h : w_X4_put_27 post C s0) : W p l e (rmA 2 0 0) s m args below meth c H locs 0 0 (MQ below ((QI D (wM cI cS a) post) A) args s 0 0 A) (F0 m 27 ls [.int s0, .ref (a 0)]) := by
  have hx := E.1
  have hb := E.2.1
  unfold w_X4_put_27 at h
  refine x_ci (x_runV (As := [.int s0]) (rest := []) E (c_X4_answer h) yk_X4_answer yi_X4_answer km_X4_86 ⟨Nat.le_of_ble_eq_true rfl, Nat.le_of_ble_eq_true rfl⟩ ⟨Nat.le_of_ble_eq_true rfl, Nat.le_of_ble_eq_true rfl⟩ hH (va_recv E.2.2.2.2.2.1 hH.1 (ci := 4) (q0 := 0) rfl wM_g0) hl.1 rfl rfl (lv_room (Nat.le_of_ble_eq_true rfl)) dX4_put_27) hH (fun r11 C10 H locs h hH => ?_)
  exact x_iret E hH h dX4_put_30
set_option maxHeartbeats 4000000 in
set_option maxRecDepth 100000 in
theorem k_X4_put_17 {post : Int32 → MS → Prop} (E : Cx p s m args meth c cX4_put 4 RX4 (some .int) D (tyW cI cS cO))  {C : MS} {x3 : Int32} {H : Heap} {locs : List Loc} {ls : Array Slot} (hH : HX D (wM cI cS a C) A s.heap H locs) (hl : lv_has ls 4 [(0, .ref (a 0)), (3, .int x3)]) (h : w_X4_put_17 post C x3) : W p l e (rmA 2 0 0) s m args below meth c H locs 0 0 (MQ below ((QI D (wM cI cS a) post) A) args s 0 0 A) (F0 m 17 ls []) := by
  have hx := E.1
  have hb := E.2.1
  unfold w_X4_put_17 at h
  refine lv_aload_n hx hb dX4_put_17 rfl (lv_at hl 0 rfl) ?_
  refine lv_iload_n hx hb dX4_put_18 rfl (lv_at hl 1 rfl) ?_
  refine lv_if_ge (tgt := 26) hx hb dX4_put_19 (by decide) (fun hc => ?_) (fun hc => ?_)
  · have h := h.1 hc
    refine lv_iconst (v := (-1 : Int32)) hx hb dX4_put_26 (by decide) ?_
    exact k_X4_put_27 E  hH (lv_sub hl [] rfl) h
  · have h := h.2 hc
    refine lv_iload_n hx hb dX4_put_22 rfl (lv_at hl 1 rfl) ?_
    refine lv_goto (tgt := 27) hx hb dX4_put_23 (by decide) ?_
    exact k_X4_put_27 E  hH (lv_sub hl [] rfl) h
set_option maxHeartbeats 4000000 in
set_option maxRecDepth 100000 in
theorem c_X4_put {l : Launch} {D : va_G} {cI cS cO : ClassId} {a : Nat → Nat} {C : MS} {x1 : Int32} {x2 : Int32} {post : Int32 → MS → Prop} (h : w_X4_put post C x1 x2) : MetX l D (tyW cI cS cO) yX4_put cX4_put 4 (some .int) 2 0 0 [.ref (a 0), .int x1, .int x2] (wM cI cS a C) (QI D (wM cI cS a) post) := by
  refine x_ent (by decide) (Nat.le_of_ble_eq_true rfl) ?_
  intro p e s m below meth c ls E _ hH hl
  have hx := E.1
  have hb := E.2.1
  generalize va_A (wM cI cS a C) s.heap.size = A at hH ⊢
  have hl : lv_has ls 4 [(0, .ref (a 0)), (1, .int x1), (2, .int x2)] := hl
  unfold w_X4_put at h
  refine lv_aload_n hx hb dX4_put_0 rfl (lv_at hl 0 rfl) ?_
  refine lv_iload_n hx hb dX4_put_1 rfl (lv_at hl 1 rfl) ?_
  refine x_ci (x_runV (As := [.int x1]) (rest := []) E (c_X4_look h) yk_X4_look yi_X4_look km_X4_72 ⟨Nat.le_of_ble_eq_true rfl, Nat.le_of_ble_eq_true rfl⟩ ⟨Nat.le_of_ble_eq_true rfl, Nat.le_of_ble_eq_true rfl⟩ hH (va_recv E.2.2.2.2.2.1 hH.1 (ci := 4) (q0 := 0) rfl wM_g0) hl.1 rfl rfl (lv_room (Nat.le_of_ble_eq_true rfl)) dX4_put_2) hH (fun r2 C1 H locs h hH => ?_)
  refine lv_istore_n (lv' := [(3, .int r2), (0, .ref (a 0)), (1, .int x1), (2, .int x2)]) hx hb dX4_put_5 rfl hl (by decide) rfl (fun ls hl => ?_)
  refine lv_iload_n hx hb dX4_put_6 rfl (lv_at hl 0 rfl) ?_
  refine lv_if_lt (tgt := 17) hx hb dX4_put_7 (by decide) (fun hc => ?_) (fun hc => ?_)
  · have h := h.1 hc
    exact k_X4_put_17 E  hH (lv_sub hl [1, 0] rfl) h
  · have h := h.2 hc
    refine lv_iload_n hx hb dX4_put_10 rfl (lv_at hl 3 rfl) ?_
    refine x_ci (x_runS (As := [.int x2]) (rest := []) E (c_X4_isPlace h) yk_X4_isPlace yi_X4_isPlace km_X4_64 ⟨Nat.le_of_ble_eq_true rfl, Nat.le_of_ble_eq_true rfl⟩ ⟨Nat.le_of_ble_eq_true rfl, Nat.le_of_ble_eq_true rfl⟩ hH  hl.1 rfl rfl (lv_room (Nat.le_of_ble_eq_true rfl)) dX4_put_11) hH (fun r4 C3 H locs h hH => ?_)
    refine lv_if_ne (tgt := 31) hx hb dX4_put_14 (by decide) (fun hc => ?_) (fun hc => ?_)
    · have h := h.1 hc
      refine lv_aload_n hx hb dX4_put_31 rfl (lv_at hl 1 rfl) ?_
      refine x_get (ci := 4) (CN := RX4) (T := TX4) (N := 20) E in_X4 hH 0 wM_g0 rfl 8 (by decide) kf_X4_31 rfl dX4_put_32 ?_
      refine lv_iload_n hx hb dX4_put_35 rfl (lv_at hl 2 rfl) ?_
      obtain ⟨hi5, h⟩ := h
      refine x_iald E hH 6 0 wM_g8 rfl hi5 dX4_put_36 ?_
      refine lv_iconst (v := (1 : Int32)) hx hb dX4_put_37 (by decide) ?_
      refine lv_icmp_ne (tgt := 63) hx hb dX4_put_38 (by decide) (fun hc => ?_) (fun hc => ?_)
      · have h := h.1 hc
        refine lv_aload_n hx hb dX4_put_63 rfl (lv_at hl 1 rfl) ?_
        refine lv_iload_n hx hb dX4_put_64 rfl (lv_at hl 2 rfl) ?_
        refine lv_iload_n hx hb dX4_put_65 rfl (lv_at hl 3 rfl) ?_
        refine lv_aload_n hx hb dX4_put_66 rfl (lv_at hl 1 rfl) ?_
        refine x_get (ci := 4) (CN := RX4) (T := TX4) (N := 20) E in_X4 hH 0 wM_g0 rfl 8 (by decide) kf_X4_31 rfl dX4_put_67 ?_
        refine lv_iload_n hx hb dX4_put_70 rfl (lv_at hl 2 rfl) ?_
        refine x_iald E hH 6 0 wM_g8 rfl hi5 dX4_put_71 ?_
        refine x_ci (x_runV (As := [.int x1, .int x2, .int ((mr C3 8) (Int32.toNatClampNeg x1))]) (rest := []) E (c_X4_store h) yk_X4_store yi_X4_store km_X4_116 ⟨Nat.le_of_ble_eq_true rfl, Nat.le_of_ble_eq_true rfl⟩ ⟨Nat.le_of_ble_eq_true rfl, Nat.le_of_ble_eq_true rfl⟩ hH (va_recv E.2.2.2.2.2.1 hH.1 (ci := 4) (q0 := 0) rfl wM_g0) hl.1 rfl rfl (lv_room (Nat.le_of_ble_eq_true rfl)) dX4_put_72) hH (fun r7 C6 H locs h hH => ?_)
        refine lv_pop hx hb dX4_put_75 rfl ?_
        exact k_X4_put_76 E  hH (lv_sub hl [1, 3] rfl) h
      · have h := h.2 hc
        refine lv_aload_n hx hb dX4_put_41 rfl (lv_at hl 1 rfl) ?_
        refine x_get (ci := 4) (CN := RX4) (T := TX4) (N := 20) E in_X4 hH 0 wM_g0 rfl 8 (by decide) kf_X4_31 rfl dX4_put_42 ?_
        refine lv_iload_n hx hb dX4_put_45 rfl (lv_at hl 3 rfl) ?_
        refine lv_iconst (v := (1 : Int32)) hx hb dX4_put_46 (by decide) ?_
        obtain ⟨hi8, h⟩ := h
        refine x_iast E hH 6 0 wM_g8 rfl hi8 wM_s8 dX4_put_47 (fun H locs hH => ?_)
        refine lv_aload_n hx hb dX4_put_48 rfl (lv_at hl 1 rfl) ?_
        refine x_get (ci := 4) (CN := RX4) (T := TX4) (N := 20) E in_X4 hH 0 wM_g0 rfl 9 (by decide) kf_X4_34 rfl dX4_put_49 ?_
        refine lv_iload_n hx hb dX4_put_52 rfl (lv_at hl 3 rfl) ?_
        refine lv_aload_n hx hb dX4_put_53 rfl (lv_at hl 1 rfl) ?_
        refine x_get (ci := 4) (CN := RX4) (T := TX4) (N := 20) E in_X4 hH 0 wM_g0 rfl 9 (by decide) kf_X4_34 rfl dX4_put_54 ?_
        refine lv_iload_n hx hb dX4_put_57 rfl (lv_at hl 2 rfl) ?_
        refine x_iald E hH 7 0 wM_g9 rfl hi5 dX4_put_58 ?_
        refine x_iast E hH 7 0 wM_g9 rfl hi8 wM_s9 dX4_put_59 (fun H locs hH => ?_)
        refine lv_goto (tgt := 76) hx hb dX4_put_60 (by decide) ?_
        exact k_X4_put_76 E  hH (lv_sub hl [1, 3] rfl) h
    · have h := h.2 hc
      exact k_X4_put_17 E  hH (lv_sub hl [1, 0] rfl) h
set_option maxHeartbeats 4000000 in
set_option maxRecDepth 100000 in
theorem c_X4_take {l : Launch} {D : va_G} {cI cS cO : ClassId} {a : Nat → Nat} {C : MS} {x1 : Int32} {post : Int32 → MS → Prop} (h : w_X4_take post C x1) : MetX l D (tyW cI cS cO) yX4_take cX4_take 2 (some .int) 1 0 0 [.ref (a 0), .int x1] (wM cI cS a C) (QI D (wM cI cS a) post) := by
  refine x_ent (by decide) (Nat.le_of_ble_eq_true rfl) ?_
  intro p e s m below meth c ls E _ hH hl
  have hx := E.1
  have hb := E.2.1
  generalize va_A (wM cI cS a C) s.heap.size = A at hH ⊢
  have hl : lv_has ls 2 [(0, .ref (a 0)), (1, .int x1)] := hl
  unfold w_X4_take at h
  refine lv_iload_n hx hb dX4_take_0 rfl (lv_at hl 1 rfl) ?_
  refine x_ci (x_runS (As := [.int x1]) (rest := []) E (c_X4_isPlace h) yk_X4_isPlace yi_X4_isPlace km_X4_64 ⟨Nat.le_of_ble_eq_true rfl, Nat.le_of_ble_eq_true rfl⟩ ⟨Nat.le_of_ble_eq_true rfl, Nat.le_of_ble_eq_true rfl⟩ hH  hl.1 rfl rfl (lv_room (Nat.le_of_ble_eq_true rfl)) dX4_take_1) hH (fun r2 C1 H locs h hH => ?_)
  refine lv_if_ne (tgt := 13) hx hb dX4_take_4 (by decide) (fun hc => ?_) (fun hc => ?_)
  · have h := h.1 hc
    refine lv_aload_n hx hb dX4_take_13 rfl (lv_at hl 0 rfl) ?_
    refine x_get (ci := 4) (CN := RX4) (T := TX4) (N := 20) E in_X4 hH 0 wM_g0 rfl 8 (by decide) kf_X4_31 rfl dX4_take_14 ?_
    refine lv_iload_n hx hb dX4_take_17 rfl (lv_at hl 1 rfl) ?_
    refine lv_iconst (v := (0 : Int32)) hx hb dX4_take_18 (by decide) ?_
    obtain ⟨hi3, h⟩ := h
    refine x_iast E hH 6 0 wM_g8 rfl hi3 wM_s8 dX4_take_19 (fun H locs hH => ?_)
    refine lv_iconst (v := (0 : Int32)) hx hb dX4_take_20 (by decide) ?_
    exact x_iret E hH h dX4_take_21
  · have h := h.2 hc
    refine lv_aload_n hx hb dX4_take_7 rfl (lv_at hl 0 rfl) ?_
    refine lv_iconst (v := (-1 : Int32)) hx hb dX4_take_8 (by decide) ?_
    refine x_ci (x_runV (As := [.int (-1 : Int32)]) (rest := []) E (c_X4_answer h) yk_X4_answer yi_X4_answer km_X4_86 ⟨Nat.le_of_ble_eq_true rfl, Nat.le_of_ble_eq_true rfl⟩ ⟨Nat.le_of_ble_eq_true rfl, Nat.le_of_ble_eq_true rfl⟩ hH (va_recv E.2.2.2.2.2.1 hH.1 (ci := 4) (q0 := 0) rfl wM_g0) hl.1 rfl rfl (lv_room (Nat.le_of_ble_eq_true rfl)) dX4_take_9) hH (fun r5 C4 H locs h hH => ?_)
    exact x_iret E hH h dX4_take_12
set_option maxHeartbeats 4000000 in
set_option maxRecDepth 100000 in
theorem k_X4_row_55 {post : Int32 → MS → Prop} (E : Cx p s m args meth c cX4_row 4 RX4 (some .int) D (tyW cI cS cO))  {C : MS} {x1 : Int32} {x2 : Int32} {H : Heap} {locs : List Loc} {ls : Array Slot} (hH : HX D (wM cI cS a C) A s.heap H locs) (hl : lv_has ls 4 [(0, .ref (a 0)), (1, .int x1), (2, .int x2)]) (h : w_X4_row_55 post C x1 x2) : W p l e (rmA 2 0 0) s m args below meth c H locs 0 0 (MQ below ((QI D (wM cI cS a) post) A) args s 0 0 A) (F0 m 55 ls []) := by
  have hx := E.1
  have hb := E.2.1
  unfold w_X4_row_55 at h
  refine lv_iload_n hx hb dX4_row_55 rfl (lv_at hl 2 rfl) ?_
  refine lv_if_ne (tgt := 70) hx hb dX4_row_56 (by decide) (fun hc => ?_) (fun hc => ?_)
  · have h := h.1 hc
    refine lv_iload_n hx hb dX4_row_70 rfl (lv_at hl 2 rfl) ?_
    refine lv_iconst (v := (1 : Int32)) hx hb dX4_row_71 (by decide) ?_
    refine lv_icmp_ne (tgt := 83) hx hb dX4_row_72 (by decide) (fun hc => ?_) (fun hc => ?_)
    · have h := h.1 hc
      refine lv_aload_n hx hb dX4_row_83 rfl (lv_at hl 0 rfl) ?_
      refine x_get (ci := 4) (CN := RX4) (T := TX4) (N := 20) E in_X4 hH 0 wM_g0 rfl 9 (by decide) kf_X4_34 rfl dX4_row_84 ?_
      refine lv_iload_n hx hb dX4_row_87 rfl (lv_at hl 1 rfl) ?_
      obtain ⟨hi6, h⟩ := h
      refine x_iald E hH 7 0 wM_g9 rfl hi6 dX4_row_88 ?_
      exact x_iret E hH h dX4_row_89
    · have h := h.2 hc
      refine lv_aload_n hx hb dX4_row_75 rfl (lv_at hl 0 rfl) ?_
      refine lv_iload_n hx hb dX4_row_76 rfl (lv_at hl 1 rfl) ?_
      refine x_ci (x_runV (As := [.int x1]) (rest := []) E (c_X4_size h) yk_X4_size yi_X4_size km_X4_68 ⟨Nat.le_of_ble_eq_true rfl, Nat.le_of_ble_eq_true rfl⟩ ⟨Nat.le_of_ble_eq_true rfl, Nat.le_of_ble_eq_true rfl⟩ hH (va_recv E.2.2.2.2.2.1 hH.1 (ci := 4) (q0 := 0) rfl wM_g0) hl.1 rfl rfl (lv_room (Nat.le_of_ble_eq_true rfl)) dX4_row_77) hH (fun r8 C7 H locs h hH => ?_)
      refine lv_goto (tgt := 89) hx hb dX4_row_80 (by decide) ?_
      exact x_iret E hH h dX4_row_89
  · have h := h.2 hc
    refine lv_aload_n hx hb dX4_row_59 rfl (lv_at hl 0 rfl) ?_
    refine x_get (ci := 4) (CN := RX4) (T := TX4) (N := 20) E in_X4 hH 0 wM_g0 rfl 8 (by decide) kf_X4_31 rfl dX4_row_60 ?_
    refine lv_iload_n hx hb dX4_row_63 rfl (lv_at hl 1 rfl) ?_
    obtain ⟨hi9, h⟩ := h
    refine x_iald E hH 6 0 wM_g8 rfl hi9 dX4_row_64 ?_
    refine lv_iconst (v := (1 : Int32)) hx hb dX4_row_65 (by decide) ?_
    refine lv_isub hx hb dX4_row_66 ?_
    refine lv_goto (tgt := 89) hx hb dX4_row_67 (by decide) ?_
    exact x_iret E hH h dX4_row_89
set_option maxHeartbeats 4000000 in
set_option maxRecDepth 100000 in
theorem k_X4_row_29 {post : Int32 → MS → Prop} (E : Cx p s m args meth c cX4_row 4 RX4 (some .int) D (tyW cI cS cO))  {C : MS} {s0 : Int32} {H : Heap} {locs : List Loc} {ls : Array Slot} (hH : HX D (wM cI cS a C) A s.heap H locs) (hl : lv_has ls 4 []) (h : w_X4_row_29 post C s0) : W p l e (rmA 2 0 0) s m args below meth c H locs 0 0 (MQ below ((QI D (wM cI cS a) post) A) args s 0 0 A) (F0 m 29 ls [.int s0, .ref (a 0)]) := by
  have hx := E.1
  have hb := E.2.1
  unfold w_X4_row_29 at h
  refine x_ci (x_runV (As := [.int s0]) (rest := []) E (c_X4_answer h) yk_X4_answer yi_X4_answer km_X4_86 ⟨Nat.le_of_ble_eq_true rfl, Nat.le_of_ble_eq_true rfl⟩ ⟨Nat.le_of_ble_eq_true rfl, Nat.le_of_ble_eq_true rfl⟩ hH (va_recv E.2.2.2.2.2.1 hH.1 (ci := 4) (q0 := 0) rfl wM_g0) hl.1 rfl rfl (lv_room (Nat.le_of_ble_eq_true rfl)) dX4_row_29) hH (fun r11 C10 H locs h hH => ?_)
  exact x_iret E hH h dX4_row_32
set_option maxHeartbeats 4000000 in
set_option maxRecDepth 100000 in
theorem k_X4_row_19 {post : Int32 → MS → Prop} (E : Cx p s m args meth c cX4_row 4 RX4 (some .int) D (tyW cI cS cO))  {C : MS} {x3 : Int32} {H : Heap} {locs : List Loc} {ls : Array Slot} (hH : HX D (wM cI cS a C) A s.heap H locs) (hl : lv_has ls 4 [(0, .ref (a 0)), (3, .int x3)]) (h : w_X4_row_19 post C x3) : W p l e (rmA 2 0 0) s m args below meth c H locs 0 0 (MQ below ((QI D (wM cI cS a) post) A) args s 0 0 A) (F0 m 19 ls []) := by
  have hx := E.1
  have hb := E.2.1
  unfold w_X4_row_19 at h
  refine lv_aload_n hx hb dX4_row_19 rfl (lv_at hl 0 rfl) ?_
  refine lv_iload_n hx hb dX4_row_20 rfl (lv_at hl 1 rfl) ?_
  refine lv_if_ge (tgt := 28) hx hb dX4_row_21 (by decide) (fun hc => ?_) (fun hc => ?_)
  · have h := h.1 hc
    refine lv_iconst (v := (-1 : Int32)) hx hb dX4_row_28 (by decide) ?_
    exact k_X4_row_29 E  hH (lv_sub hl [] rfl) h
  · have h := h.2 hc
    refine lv_iload_n hx hb dX4_row_24 rfl (lv_at hl 1 rfl) ?_
    refine lv_goto (tgt := 29) hx hb dX4_row_25 (by decide) ?_
    exact k_X4_row_29 E  hH (lv_sub hl [] rfl) h
set_option maxHeartbeats 4000000 in
set_option maxRecDepth 100000 in
theorem c_X4_row {l : Launch} {D : va_G} {cI cS cO : ClassId} {a : Nat → Nat} {C : MS} {x1 : Int32} {x2 : Int32} {post : Int32 → MS → Prop} (h : w_X4_row post C x1 x2) : MetX l D (tyW cI cS cO) yX4_row cX4_row 4 (some .int) 2 0 0 [.ref (a 0), .int x1, .int x2] (wM cI cS a C) (QI D (wM cI cS a) post) := by
  refine x_ent (by decide) (Nat.le_of_ble_eq_true rfl) ?_
  intro p e s m below meth c ls E _ hH hl
  have hx := E.1
  have hb := E.2.1
  generalize va_A (wM cI cS a C) s.heap.size = A at hH ⊢
  have hl : lv_has ls 4 [(0, .ref (a 0)), (1, .int x1), (2, .int x2)] := hl
  unfold w_X4_row at h
  refine lv_aload_n hx hb dX4_row_0 rfl (lv_at hl 0 rfl) ?_
  refine lv_iload_n hx hb dX4_row_1 rfl (lv_at hl 1 rfl) ?_
  refine x_ci (x_runV (As := [.int x1]) (rest := []) E (c_X4_look h) yk_X4_look yi_X4_look km_X4_72 ⟨Nat.le_of_ble_eq_true rfl, Nat.le_of_ble_eq_true rfl⟩ ⟨Nat.le_of_ble_eq_true rfl, Nat.le_of_ble_eq_true rfl⟩ hH (va_recv E.2.2.2.2.2.1 hH.1 (ci := 4) (q0 := 0) rfl wM_g0) hl.1 rfl rfl (lv_room (Nat.le_of_ble_eq_true rfl)) dX4_row_2) hH (fun r2 C1 H locs h hH => ?_)
  refine lv_istore_n (lv' := [(3, .int r2), (0, .ref (a 0)), (1, .int x1), (2, .int x2)]) hx hb dX4_row_5 rfl hl (by decide) rfl (fun ls hl => ?_)
  refine lv_iload_n hx hb dX4_row_6 rfl (lv_at hl 0 rfl) ?_
  refine lv_if_lt (tgt := 19) hx hb dX4_row_7 (by decide) (fun hc => ?_) (fun hc => ?_)
  · have h := h.1 hc
    exact k_X4_row_19 E  hH (lv_sub hl [1, 0] rfl) h
  · have h := h.2 hc
    refine lv_iload_n hx hb dX4_row_10 rfl (lv_at hl 3 rfl) ?_
    refine lv_if_lt (tgt := 19) hx hb dX4_row_11 (by decide) (fun hc => ?_) (fun hc => ?_)
    · have h := h.1 hc
      exact k_X4_row_19 E  hH (lv_sub hl [1, 0] rfl) h
    · have h := h.2 hc
      refine lv_iload_n hx hb dX4_row_14 rfl (lv_at hl 3 rfl) ?_
      refine lv_iconst (v := (2 : Int32)) hx hb dX4_row_15 (by decide) ?_
      refine lv_icmp_le (tgt := 33) hx hb dX4_row_16 (by decide) (fun hc => ?_) (fun hc => ?_)
      · have h := h.1 hc
        refine lv_iload_n hx hb dX4_row_33 rfl (lv_at hl 3 rfl) ?_
        refine lv_iconst (v := (2 : Int32)) hx hb dX4_row_34 (by decide) ?_
        refine lv_icmp_ne (tgt := 55) hx hb dX4_row_35 (by decide) (fun hc => ?_) (fun hc => ?_)
        · have h := h.1 hc
          exact k_X4_row_55 E  hH (lv_sub hl [1, 2, 3] rfl) h
        · have h := h.2 hc
          refine lv_aload_n hx hb dX4_row_38 rfl (lv_at hl 1 rfl) ?_
          refine x_get (ci := 4) (CN := RX4) (T := TX4) (N := 20) E in_X4 hH 0 wM_g0 rfl 8 (by decide) kf_X4_31 rfl dX4_row_39 ?_
          refine lv_iload_n hx hb dX4_row_42 rfl (lv_at hl 2 rfl) ?_
          obtain ⟨hi3, h⟩ := h
          refine x_iald E hH 6 0 wM_g8 rfl hi3 dX4_row_43 ?_
          refine lv_iconst (v := (1 : Int32)) hx hb dX4_row_44 (by decide) ?_
          refine lv_icmp_eq (tgt := 55) hx hb dX4_row_45 (by decide) (fun hc => ?_) (fun hc => ?_)
          · have h := h.1 hc
            exact k_X4_row_55 E  hH (lv_sub hl [1, 2, 3] rfl) h
          · have h := h.2 hc
            refine lv_aload_n hx hb dX4_row_48 rfl (lv_at hl 1 rfl) ?_
            refine lv_bipush (v := (-3 : Int32)) hx hb dX4_row_49 (by decide) ?_
            refine x_ci (x_runV (As := [.int (-3 : Int32)]) (rest := []) E (c_X4_answer h) yk_X4_answer yi_X4_answer km_X4_86 ⟨Nat.le_of_ble_eq_true rfl, Nat.le_of_ble_eq_true rfl⟩ ⟨Nat.le_of_ble_eq_true rfl, Nat.le_of_ble_eq_true rfl⟩ hH (va_recv E.2.2.2.2.2.1 hH.1 (ci := 4) (q0 := 0) rfl wM_g0) hl.1 rfl rfl (lv_room (Nat.le_of_ble_eq_true rfl)) dX4_row_51) hH (fun r5 C4 H locs h hH => ?_)
            exact x_iret E hH h dX4_row_54
      · have h := h.2 hc
        exact k_X4_row_19 E  hH (lv_sub hl [1, 0] rfl) h
set_option maxHeartbeats 4000000 in
set_option maxRecDepth 100000 in
theorem c_X4_lookAt {l : Launch} {D : va_G} {cI cS cO : ClassId} {a : Nat → Nat} {C : MS} {x1 : Int32} {x2 : Int32} {post : Int32 → MS → Prop} (h : w_X4_lookAt post C x1 x2) : MetX l D (tyW cI cS cO) yX4_lookAt cX4_lookAt 4 (some .int) 2 0 0 [.ref (a 0), .int x1, .int x2] (wM cI cS a C) (QI D (wM cI cS a) post) := by
  refine x_ent (by decide) (Nat.le_of_ble_eq_true rfl) ?_
  intro p e s m below meth c ls E _ hH hl
  have hx := E.1
  have hb := E.2.1
  generalize va_A (wM cI cS a C) s.heap.size = A at hH ⊢
  have hl : lv_has ls 4 [(0, .ref (a 0)), (1, .int x1), (2, .int x2)] := hl
  unfold w_X4_lookAt at h
  refine lv_aload_n hx hb dX4_lookAt_0 rfl (lv_at hl 0 rfl) ?_
  refine lv_iload_n hx hb dX4_lookAt_1 rfl (lv_at hl 1 rfl) ?_
  refine x_ci (x_runV (As := [.int x1]) (rest := []) E (c_X4_look h) yk_X4_look yi_X4_look km_X4_72 ⟨Nat.le_of_ble_eq_true rfl, Nat.le_of_ble_eq_true rfl⟩ ⟨Nat.le_of_ble_eq_true rfl, Nat.le_of_ble_eq_true rfl⟩ hH (va_recv E.2.2.2.2.2.1 hH.1 (ci := 4) (q0 := 0) rfl wM_g0) hl.1 rfl rfl (lv_room (Nat.le_of_ble_eq_true rfl)) dX4_lookAt_2) hH (fun r2 C1 H locs h hH => ?_)
  refine lv_istore_n (lv' := [(3, .int r2), (0, .ref (a 0)), (1, .int x1), (2, .int x2)]) hx hb dX4_lookAt_5 rfl hl (by decide) rfl (fun ls hl => ?_)
  refine lv_iload_n hx hb dX4_lookAt_6 rfl (lv_at hl 0 rfl) ?_
  refine lv_if_ge (tgt := 14) hx hb dX4_lookAt_7 (by decide) (fun hc => ?_) (fun hc => ?_)
  · have h := h.1 hc
    refine lv_iload_n hx hb dX4_lookAt_14 rfl (lv_at hl 3 rfl) ?_
    refine lv_if_lt (tgt := 27) hx hb dX4_lookAt_15 (by decide) (fun hc => ?_) (fun hc => ?_)
    · have h := h.1 hc
      refine lv_iconst (v := (-1 : Int32)) hx hb dX4_lookAt_27 (by decide) ?_
      refine lv_goto (tgt := 32) hx hb dX4_lookAt_28 (by decide) ?_
      exact x_iret E hH h dX4_lookAt_32
    · have h := h.2 hc
      refine lv_iload_n hx hb dX4_lookAt_18 rfl (lv_at hl 3 rfl) ?_
      refine lv_aload_n hx hb dX4_lookAt_19 rfl (lv_at hl 1 rfl) ?_
      refine lv_iload_n hx hb dX4_lookAt_20 rfl (lv_at hl 2 rfl) ?_
      refine x_ci (x_runV (As := [.int x1]) (rest := [.int x2]) E (c_X4_size h) yk_X4_size yi_X4_size km_X4_68 ⟨Nat.le_of_ble_eq_true rfl, Nat.le_of_ble_eq_true rfl⟩ ⟨Nat.le_of_ble_eq_true rfl, Nat.le_of_ble_eq_true rfl⟩ hH (va_recv E.2.2.2.2.2.1 hH.1 (ci := 4) (q0 := 0) rfl wM_g0) hl.1 rfl rfl (lv_room (Nat.le_of_ble_eq_true rfl)) dX4_lookAt_21) hH (fun r4 C3 H locs h hH => ?_)
      refine lv_icmp_lt (tgt := 31) hx hb dX4_lookAt_24 (by decide) (fun hc => ?_) (fun hc => ?_)
      · have h := h.1 hc
        refine lv_iconst (v := (0 : Int32)) hx hb dX4_lookAt_31 (by decide) ?_
        exact x_iret E hH h dX4_lookAt_32
      · have h := h.2 hc
        refine lv_iconst (v := (-1 : Int32)) hx hb dX4_lookAt_27 (by decide) ?_
        refine lv_goto (tgt := 32) hx hb dX4_lookAt_28 (by decide) ?_
        exact x_iret E hH h dX4_lookAt_32
  · have h := h.2 hc
    refine lv_iload_n hx hb dX4_lookAt_10 rfl (lv_at hl 0 rfl) ?_
    refine lv_goto (tgt := 32) hx hb dX4_lookAt_11 (by decide) ?_
    exact x_iret E hH h dX4_lookAt_32
set_option maxHeartbeats 4000000 in
set_option maxRecDepth 100000 in
theorem c_X4_at {l : Launch} {D : va_G} {cI cS cO : ClassId} {a : Nat → Nat} {C : MS} {x1 : Int32} {x2 : Int32} {post : Int32 → MS → Prop} (h : w_X4_at post C x1 x2) : MetX l D (tyW cI cS cO) yX4_at cX4_at 4 (some .int) 3 0 0 [.ref (a 0), .int x1, .int x2] (wM cI cS a C) (QI D (wM cI cS a) post) := by
  refine x_ent (by decide) (Nat.le_of_ble_eq_true rfl) ?_
  intro p e s m below meth c ls E _ hH hl
  have hx := E.1
  have hb := E.2.1
  generalize va_A (wM cI cS a C) s.heap.size = A at hH ⊢
  have hl : lv_has ls 4 [(0, .ref (a 0)), (1, .int x1), (2, .int x2)] := hl
  unfold w_X4_at at h
  refine lv_aload_n hx hb dX4_at_0 rfl (lv_at hl 0 rfl) ?_
  refine lv_iload_n hx hb dX4_at_1 rfl (lv_at hl 1 rfl) ?_
  refine lv_iload_n hx hb dX4_at_2 rfl (lv_at hl 2 rfl) ?_
  refine x_ci (x_runV (As := [.int x1, .int x2]) (rest := []) E (c_X4_lookAt h) yk_X4_lookAt yi_X4_lookAt km_X4_119 ⟨Nat.le_of_ble_eq_true rfl, Nat.le_of_ble_eq_true rfl⟩ ⟨Nat.le_of_ble_eq_true rfl, Nat.le_of_ble_eq_true rfl⟩ hH (va_recv E.2.2.2.2.2.1 hH.1 (ci := 4) (q0 := 0) rfl wM_g0) hl.1 rfl rfl (lv_room (Nat.le_of_ble_eq_true rfl)) dX4_at_3) hH (fun r2 C1 H locs h hH => ?_)
  refine lv_istore_n (lv' := [(3, .int r2), (0, .ref (a 0)), (1, .int x1), (2, .int x2)]) hx hb dX4_at_6 rfl hl (by decide) rfl (fun ls hl => ?_)
  refine lv_iload_n hx hb dX4_at_7 rfl (lv_at hl 0 rfl) ?_
  refine lv_if_ge (tgt := 19) hx hb dX4_at_8 (by decide) (fun hc => ?_) (fun hc => ?_)
  · have h := h.1 hc
    refine lv_aload_n hx hb dX4_at_19 rfl (lv_at hl 1 rfl) ?_
    refine lv_iload_n hx hb dX4_at_20 rfl (lv_at hl 2 rfl) ?_
    refine lv_iload_n hx hb dX4_at_21 rfl (lv_at hl 3 rfl) ?_
    refine x_ci (x_runV (As := [.int x1, .int x2]) (rest := []) E (c_X4_valueAt h) yk_X4_valueAt yi_X4_valueAt km_X4_103 ⟨Nat.le_of_ble_eq_true rfl, Nat.le_of_ble_eq_true rfl⟩ ⟨Nat.le_of_ble_eq_true rfl, Nat.le_of_ble_eq_true rfl⟩ hH (va_recv E.2.2.2.2.2.1 hH.1 (ci := 4) (q0 := 0) rfl wM_g0) hl.1 rfl rfl (lv_room (Nat.le_of_ble_eq_true rfl)) dX4_at_22) hH (fun r4 C3 H locs h hH => ?_)
    exact x_iret E hH h dX4_at_25
  · have h := h.2 hc
    refine lv_aload_n hx hb dX4_at_11 rfl (lv_at hl 1 rfl) ?_
    refine lv_iload_n hx hb dX4_at_12 rfl (lv_at hl 0 rfl) ?_
    refine x_ci (x_runV (As := [.int r2]) (rest := []) E (c_X4_answer h) yk_X4_answer yi_X4_answer km_X4_86 ⟨Nat.le_of_ble_eq_true rfl, Nat.le_of_ble_eq_true rfl⟩ ⟨Nat.le_of_ble_eq_true rfl, Nat.le_of_ble_eq_true rfl⟩ hH (va_recv E.2.2.2.2.2.1 hH.1 (ci := 4) (q0 := 0) rfl wM_g0) hl.1 rfl rfl (lv_room (Nat.le_of_ble_eq_true rfl)) dX4_at_13) hH (fun r6 C5 H locs h hH => ?_)
    refine lv_goto (tgt := 25) hx hb dX4_at_16 (by decide) ?_
    exact x_iret E hH h dX4_at_25
set_option maxHeartbeats 4000000 in
set_option maxRecDepth 100000 in
theorem c_X4_weight {l : Launch} {D : va_G} {cI cS cO : ClassId} {a : Nat → Nat} {C : MS} {x1 : Int32} {x2 : Int32} {post : Int64 → MS → Prop} (h : w_X4_weight post C x1 x2) : MetX l D (tyW cI cS cO) yX4_weight cX4_weight 4 (some .long) 3 0 0 [.ref (a 0), .int x1, .int x2] (wM cI cS a C) (QL D (wM cI cS a) post) := by
  refine x_ent (by decide) (Nat.le_of_ble_eq_true rfl) ?_
  intro p e s m below meth c ls E _ hH hl
  have hx := E.1
  have hb := E.2.1
  generalize va_A (wM cI cS a C) s.heap.size = A at hH ⊢
  have hl : lv_has ls 4 [(0, .ref (a 0)), (1, .int x1), (2, .int x2)] := hl
  unfold w_X4_weight at h
  refine lv_aload_n hx hb dX4_weight_0 rfl (lv_at hl 0 rfl) ?_
  refine lv_iload_n hx hb dX4_weight_1 rfl (lv_at hl 1 rfl) ?_
  refine lv_iload_n hx hb dX4_weight_2 rfl (lv_at hl 2 rfl) ?_
  refine x_ci (x_runV (As := [.int x1, .int x2]) (rest := []) E (c_X4_lookAt h) yk_X4_lookAt yi_X4_lookAt km_X4_119 ⟨Nat.le_of_ble_eq_true rfl, Nat.le_of_ble_eq_true rfl⟩ ⟨Nat.le_of_ble_eq_true rfl, Nat.le_of_ble_eq_true rfl⟩ hH (va_recv E.2.2.2.2.2.1 hH.1 (ci := 4) (q0 := 0) rfl wM_g0) hl.1 rfl rfl (lv_room (Nat.le_of_ble_eq_true rfl)) dX4_weight_3) hH (fun r2 C1 H locs h hH => ?_)
  refine lv_istore_n (lv' := [(3, .int r2), (0, .ref (a 0)), (1, .int x1), (2, .int x2)]) hx hb dX4_weight_6 rfl hl (by decide) rfl (fun ls hl => ?_)
  refine lv_iload_n hx hb dX4_weight_7 rfl (lv_at hl 0 rfl) ?_
  refine lv_if_ge (tgt := 19) hx hb dX4_weight_8 (by decide) (fun hc => ?_) (fun hc => ?_)
  · have h := h.1 hc
    refine lv_aload_n hx hb dX4_weight_19 rfl (lv_at hl 1 rfl) ?_
    refine lv_iload_n hx hb dX4_weight_20 rfl (lv_at hl 2 rfl) ?_
    refine lv_iload_n hx hb dX4_weight_21 rfl (lv_at hl 3 rfl) ?_
    refine x_ci (x_runV (As := [.int x1, .int x2]) (rest := []) E (c_X4_weightAt h) yk_X4_weightAt yi_X4_weightAt km_X4_106 ⟨Nat.le_of_ble_eq_true rfl, Nat.le_of_ble_eq_true rfl⟩ ⟨Nat.le_of_ble_eq_true rfl, Nat.le_of_ble_eq_true rfl⟩ hH (va_recv E.2.2.2.2.2.1 hH.1 (ci := 4) (q0 := 0) rfl wM_g0) hl.1 rfl rfl (lv_room (Nat.le_of_ble_eq_true rfl)) dX4_weight_22) hH (fun r4 C3 H locs h hH => ?_)
    refine lv_i2l hx hb dX4_weight_25 rfl ?_
    exact x_lret E hH h dX4_weight_26
  · have h := h.2 hc
    refine lv_aload_n hx hb dX4_weight_11 rfl (lv_at hl 1 rfl) ?_
    refine lv_iload_n hx hb dX4_weight_12 rfl (lv_at hl 0 rfl) ?_
    refine x_ci (x_runV (As := [.int r2]) (rest := []) E (c_X4_answer h) yk_X4_answer yi_X4_answer km_X4_86 ⟨Nat.le_of_ble_eq_true rfl, Nat.le_of_ble_eq_true rfl⟩ ⟨Nat.le_of_ble_eq_true rfl, Nat.le_of_ble_eq_true rfl⟩ hH (va_recv E.2.2.2.2.2.1 hH.1 (ci := 4) (q0 := 0) rfl wM_g0) hl.1 rfl rfl (lv_room (Nat.le_of_ble_eq_true rfl)) dX4_weight_13) hH (fun r6 C5 H locs h hH => ?_)
    refine lv_pop hx hb dX4_weight_16 rfl ?_
    refine lv_lconst (v := (0 : Int64)) hx hb dX4_weight_17 (by decide) ?_
    exact x_lret E hH h dX4_weight_18
set_option maxHeartbeats 4000000 in
set_option maxRecDepth 100000 in
theorem c_X4_bits {l : Launch} {D : va_G} {cI cS cO : ClassId} {a : Nat → Nat} {C : MS} {x1 : Int32} {post : Int32 → MS → Prop} (h : w_X4_bits post C x1) : MetX l D (tyW cI cS cO) yX4_bits cX4_bits 2 (some .int) 0 0 0 [.ref (a 0), .int x1] (wM cI cS a C) (QI D (wM cI cS a) post) := by
  refine x_ent (by decide) (Nat.le_of_ble_eq_true rfl) ?_
  intro p e s m below meth c ls E _ hH hl
  have hx := E.1
  have hb := E.2.1
  generalize va_A (wM cI cS a C) s.heap.size = A at hH ⊢
  have hl : lv_has ls 2 [(0, .ref (a 0)), (1, .int x1)] := hl
  unfold w_X4_bits at h
  refine lv_aload_n hx hb dX4_bits_0 rfl (lv_at hl 0 rfl) ?_
  refine x_get (ci := 4) (CN := RX4) (T := TX4) (N := 20) E in_X4 hH 0 wM_g0 rfl 8 (by decide) kf_X4_31 rfl dX4_bits_1 ?_
  refine lv_iload_n hx hb dX4_bits_4 rfl (lv_at hl 1 rfl) ?_
  obtain ⟨hi1, h⟩ := h
  refine x_iald E hH 6 0 wM_g8 rfl hi1 dX4_bits_5 ?_
  refine lv_iconst (v := (3 : Int32)) hx hb dX4_bits_6 (by decide) ?_
  refine lv_icmp_ne (tgt := 15) hx hb dX4_bits_7 (by decide) (fun hc => ?_) (fun hc => ?_)
  · have h := h.1 hc
    refine lv_bipush (v := (10 : Int32)) hx hb dX4_bits_15 (by decide) ?_
    exact x_iret E hH h dX4_bits_17
  · have h := h.2 hc
    refine lv_bipush (v := (8 : Int32)) hx hb dX4_bits_10 (by decide) ?_
    refine lv_goto (tgt := 17) hx hb dX4_bits_12 (by decide) ?_
    exact x_iret E hH h dX4_bits_17
set_option maxHeartbeats 4000000 in
set_option maxRecDepth 100000 in
theorem k_X4_arrange_122b {post : MS → Prop} (E : Cx p s m args meth c cX4_arrange 8 RX4 none D (tyW cI cS cO)) {K33 : MS → Int32 → Int32 → Int32 → Int32 → Prop} (hK33 : ∀ (C : MS) (x1 : Int32) (x2 : Int32) (x3 : Int32) (x4 : Int32) (H : Heap) (locs : List Loc) (ls : Array Slot), HX D (wM cI cS a C) A s.heap H locs → lv_has ls 8 [(0, .ref (a 0)), (1, .int x1), (2, .int x2), (3, .int x3), (4, .int x4)] → K33 C x1 x2 x3 x4 → W p l e (rmA 1 0 0) s m args below meth c H locs 0 0 (MQ below ((QV D (wM cI cS a) post) A) args s 0 0 A) (F0 m 33 ls [])) {K122 : MS → Int32 → Int32 → Int32 → Int32 → Int32 → Prop} (hK122 : ∀ (C : MS) (x1 : Int32) (x2 : Int32) (x3 : Int32) (x4 : Int32) (x6 : Int32) (H : Heap) (locs : List Loc) (ls : Array Slot), HX D (wM cI cS a C) A s.heap H locs → lv_has ls 8 [(0, .ref (a 0)), (1, .int x1), (2, .int x2), (3, .int x3), (4, .int x4), (6, .int x6)] → K122 C x1 x2 x3 x4 x6 → W p l e (rmA 1 0 0) s m args below meth c H locs 0 0 (MQ below ((QV D (wM cI cS a) post) A) args s 0 0 A) (F0 m 122 ls [])) {C : MS} {x1 : Int32} {x2 : Int32} {x3 : Int32} {x4 : Int32} {x6 : Int32} {H : Heap} {locs : List Loc} {ls : Array Slot} (hH : HX D (wM cI cS a C) A s.heap H locs) (hl : lv_has ls 8 [(0, .ref (a 0)), (1, .int x1), (2, .int x2), (3, .int x3), (4, .int x4), (6, .int x6)]) (h : w_X4_arrange_122b post K33 K122 C x1 x2 x3 x4 x6) : W p l e (rmA 1 0 0) s m args below meth c H locs 0 0 (MQ below ((QV D (wM cI cS a) post) A) args s 0 0 A) (F0 m 122 ls []) := by
  have hx := E.1
  have hb := E.2.1
  unfold w_X4_arrange_122b at h
  refine lv_iload hx hb dX4_arrange_122 (lv_at hl 5 rfl) ?_
  refine lv_iload_n hx hb dX4_arrange_124 rfl (lv_at hl 3 rfl) ?_
  refine lv_icmp_ge (tgt := 148) hx hb dX4_arrange_125 (by decide) (fun hc => ?_) (fun hc => ?_)
  · have h := h.1 hc
    refine lv_iinc (v := (x4 + 1)) (lv' := [(4, .int (x4 + 1)), (0, .ref (a 0)), (1, .int x1), (2, .int x2), (3, .int x3), (6, .int x6)]) hx hb dX4_arrange_148 hl (k := 4) rfl rfl (by decide) rfl (fun ls hl => ?_)
    refine lv_goto (tgt := 33) hx hb dX4_arrange_151 (by decide) ?_
    exact hK33 _ _ _ _ _ _ _ _ hH (lv_sub hl [1, 2, 3, 4, 0] rfl) h
  · have h := h.2 hc
    refine lv_aload_n hx hb dX4_arrange_128 rfl (lv_at hl 0 rfl) ?_
    refine x_get (ci := 4) (CN := RX4) (T := TX4) (N := 20) E in_X4 hH 0 wM_g0 rfl 16 (by decide) kf_X4_52 rfl dX4_arrange_129 ?_
    refine lv_iload hx hb dX4_arrange_132 (lv_at hl 5 rfl) ?_
    refine lv_aload_n hx hb dX4_arrange_134 rfl (lv_at hl 0 rfl) ?_
    refine x_get (ci := 4) (CN := RX4) (T := TX4) (N := 20) E in_X4 hH 0 wM_g0 rfl 17 (by decide) kf_X4_55 rfl dX4_arrange_135 ?_
    refine lv_iload hx hb dX4_arrange_138 (lv_at hl 5 rfl) ?_
    obtain ⟨hi9, h⟩ := h
    refine x_iald E hH 14 0 wM_g17 rfl hi9 dX4_arrange_140 ?_
    refine x_iast E hH 13 0 wM_g16 rfl hi9 wM_s16 dX4_arrange_141 (fun H locs hH => ?_)
    refine lv_iinc (v := (x6 + 1)) (lv' := [(6, .int (x6 + 1)), (0, .ref (a 0)), (1, .int x1), (2, .int x2), (3, .int x3), (4, .int x4)]) hx hb dX4_arrange_142 hl (k := 5) rfl rfl (by decide) rfl (fun ls hl => ?_)
    refine lv_goto (tgt := 122) hx hb dX4_arrange_145 (by decide) ?_
    exact hK122 _ _ _ _ _ _ _ _ _ hH (lv_sub hl [1, 2, 3, 4, 5, 0] rfl) h
theorem k_X4_arrange_122 {post : MS → Prop} (E : Cx p s m args meth c cX4_arrange 8 RX4 none D (tyW cI cS cO)) {K33 : MS → Int32 → Int32 → Int32 → Int32 → Prop} (hK33 : ∀ (C : MS) (x1 : Int32) (x2 : Int32) (x3 : Int32) (x4 : Int32) (H : Heap) (locs : List Loc) (ls : Array Slot), HX D (wM cI cS a C) A s.heap H locs → lv_has ls 8 [(0, .ref (a 0)), (1, .int x1), (2, .int x2), (3, .int x3), (4, .int x4)] → K33 C x1 x2 x3 x4 → W p l e (rmA 1 0 0) s m args below meth c H locs 0 0 (MQ below ((QV D (wM cI cS a) post) A) args s 0 0 A) (F0 m 33 ls [])) (n : Nat) : ∀ {C : MS} {x1 : Int32} {x2 : Int32} {x3 : Int32} {x4 : Int32} {x6 : Int32} {H : Heap} {locs : List Loc} {ls : Array Slot} (hH : HX D (wM cI cS a C) A s.heap H locs) (hl : lv_has ls 8 [(0, .ref (a 0)), (1, .int x1), (2, .int x2), (3, .int x3), (4, .int x4), (6, .int x6)]) (h : w_X4_arrange_122 post K33 n C x1 x2 x3 x4 x6), W p l e (rmA 1 0 0) s m args below meth c H locs 0 0 (MQ below ((QV D (wM cI cS a) post) A) args s 0 0 A) (F0 m 122 ls []) := by
  induction n with
  | zero => intros; contradiction
  | succ n ih => intro C x1 x2 x3 x4 x6 H locs ls hH hl h; exact k_X4_arrange_122b E hK33 (fun C x1 x2 x3 x4 x6 H locs ls hH hl h => ih hH hl h) hH hl h
set_option maxHeartbeats 4000000 in
set_option maxRecDepth 100000 in
theorem k_X4_arrange_107 {post : MS → Prop} (E : Cx p s m args meth c cX4_arrange 8 RX4 none D (tyW cI cS cO)) {K33 : MS → Int32 → Int32 → Int32 → Int32 → Prop} {K45 : MS → Int32 → Int32 → Int32 → Int32 → Int32 → Int32 → Prop} {K54 : MS → Int32 → Int32 → Int32 → Int32 → Int32 → Int32 → Int32 → Prop} (hK33 : ∀ (C : MS) (x1 : Int32) (x2 : Int32) (x3 : Int32) (x4 : Int32) (H : Heap) (locs : List Loc) (ls : Array Slot), HX D (wM cI cS a C) A s.heap H locs → lv_has ls 8 [(0, .ref (a 0)), (1, .int x1), (2, .int x2), (3, .int x3), (4, .int x4)] → K33 C x1 x2 x3 x4 → W p l e (rmA 1 0 0) s m args below meth c H locs 0 0 (MQ below ((QV D (wM cI cS a) post) A) args s 0 0 A) (F0 m 33 ls [])) (hK45 : ∀ (C : MS) (x1 : Int32) (x2 : Int32) (x3 : Int32) (x4 : Int32) (x5 : Int32) (x6 : Int32) (H : Heap) (locs : List Loc) (ls : Array Slot), HX D (wM cI cS a C) A s.heap H locs → lv_has ls 8 [(0, .ref (a 0)), (1, .int x1), (2, .int x2), (3, .int x3), (4, .int x4), (5, .int x5), (6, .int x6)] → K45 C x1 x2 x3 x4 x5 x6 → W p l e (rmA 1 0 0) s m args below meth c H locs 0 0 (MQ below ((QV D (wM cI cS a) post) A) args s 0 0 A) (F0 m 45 ls [])) (hK54 : ∀ (C : MS) (x1 : Int32) (x2 : Int32) (x3 : Int32) (x4 : Int32) (x5 : Int32) (x6 : Int32) (x7 : Int32) (H : Heap) (locs : List Loc) (ls : Array Slot), HX D (wM cI cS a C) A s.heap H locs → lv_has ls 8 [(0, .ref (a 0)), (1, .int x1), (2, .int x2), (3, .int x3), (4, .int x4), (5, .int x5), (6, .int x6), (7, .int x7)] → K54 C x1 x2 x3 x4 x5 x6 x7 → W p l e (rmA 1 0 0) s m args below meth c H locs 0 0 (MQ below ((QV D (wM cI cS a) post) A) args s 0 0 A) (F0 m 54 ls [])) {C : MS} {x1 : Int32} {x2 : Int32} {x3 : Int32} {x4 : Int32} {x5 : Int32} {x6 : Int32} {x7 : Int32} {H : Heap} {locs : List Loc} {ls : Array Slot} (hH : HX D (wM cI cS a C) A s.heap H locs) (hl : lv_has ls 8 [(0, .ref (a 0)), (1, .int x1), (2, .int x2), (3, .int x3), (4, .int x4), (5, .int x5), (6, .int x6), (7, .int x7)]) (h : w_X4_arrange_107 post K33 K45 K54 C x1 x2 x3 x4 x5 x6 x7) : W p l e (rmA 1 0 0) s m args below meth c H locs 0 0 (MQ below ((QV D (wM cI cS a) post) A) args s 0 0 A) (F0 m 107 ls []) := by
  have hx := E.1
  have hb := E.2.1
  unfold w_X4_arrange_107 at h
  refine lv_iinc (v := (x7 + 1)) (lv' := [(7, .int (x7 + 1)), (0, .ref (a 0)), (1, .int x1), (2, .int x2), (3, .int x3), (4, .int x4), (5, .int x5), (6, .int x6)]) hx hb dX4_arrange_107 hl (k := 7) rfl rfl (by decide) rfl (fun ls hl => ?_)
  refine lv_goto (tgt := 54) hx hb dX4_arrange_110 (by decide) ?_
  exact hK54 _ _ _ _ _ _ _ _ _ _ _ hH (lv_sub hl [1, 2, 3, 4, 5, 6, 7, 0] rfl) h
set_option maxHeartbeats 4000000 in
set_option maxRecDepth 100000 in
theorem k_X4_arrange_54b {post : MS → Prop} (E : Cx p s m args meth c cX4_arrange 8 RX4 none D (tyW cI cS cO)) {K33 : MS → Int32 → Int32 → Int32 → Int32 → Prop} {K45 : MS → Int32 → Int32 → Int32 → Int32 → Int32 → Int32 → Prop} (hK33 : ∀ (C : MS) (x1 : Int32) (x2 : Int32) (x3 : Int32) (x4 : Int32) (H : Heap) (locs : List Loc) (ls : Array Slot), HX D (wM cI cS a C) A s.heap H locs → lv_has ls 8 [(0, .ref (a 0)), (1, .int x1), (2, .int x2), (3, .int x3), (4, .int x4)] → K33 C x1 x2 x3 x4 → W p l e (rmA 1 0 0) s m args below meth c H locs 0 0 (MQ below ((QV D (wM cI cS a) post) A) args s 0 0 A) (F0 m 33 ls [])) (hK45 : ∀ (C : MS) (x1 : Int32) (x2 : Int32) (x3 : Int32) (x4 : Int32) (x5 : Int32) (x6 : Int32) (H : Heap) (locs : List Loc) (ls : Array Slot), HX D (wM cI cS a C) A s.heap H locs → lv_has ls 8 [(0, .ref (a 0)), (1, .int x1), (2, .int x2), (3, .int x3), (4, .int x4), (5, .int x5), (6, .int x6)] → K45 C x1 x2 x3 x4 x5 x6 → W p l e (rmA 1 0 0) s m args below meth c H locs 0 0 (MQ below ((QV D (wM cI cS a) post) A) args s 0 0 A) (F0 m 45 ls [])) {K54 : MS → Int32 → Int32 → Int32 → Int32 → Int32 → Int32 → Int32 → Prop} (hK54 : ∀ (C : MS) (x1 : Int32) (x2 : Int32) (x3 : Int32) (x4 : Int32) (x5 : Int32) (x6 : Int32) (x7 : Int32) (H : Heap) (locs : List Loc) (ls : Array Slot), HX D (wM cI cS a C) A s.heap H locs → lv_has ls 8 [(0, .ref (a 0)), (1, .int x1), (2, .int x2), (3, .int x3), (4, .int x4), (5, .int x5), (6, .int x6), (7, .int x7)] → K54 C x1 x2 x3 x4 x5 x6 x7 → W p l e (rmA 1 0 0) s m args below meth c H locs 0 0 (MQ below ((QV D (wM cI cS a) post) A) args s 0 0 A) (F0 m 54 ls [])) {C : MS} {x1 : Int32} {x2 : Int32} {x3 : Int32} {x4 : Int32} {x5 : Int32} {x6 : Int32} {x7 : Int32} {H : Heap} {locs : List Loc} {ls : Array Slot} (hH : HX D (wM cI cS a C) A s.heap H locs) (hl : lv_has ls 8 [(0, .ref (a 0)), (1, .int x1), (2, .int x2), (3, .int x3), (4, .int x4), (5, .int x5), (6, .int x6), (7, .int x7)]) (h : w_X4_arrange_54b post K33 K45 K54 C x1 x2 x3 x4 x5 x6 x7) : W p l e (rmA 1 0 0) s m args below meth c H locs 0 0 (MQ below ((QV D (wM cI cS a) post) A) args s 0 0 A) (F0 m 54 ls []) := by
  have hx := E.1
  have hb := E.2.1
  unfold w_X4_arrange_54b at h
  refine lv_iload hx hb dX4_arrange_54 (lv_at hl 7 rfl) ?_
  refine lv_iload_n hx hb dX4_arrange_56 rfl (lv_at hl 3 rfl) ?_
  refine lv_icmp_ge (tgt := 113) hx hb dX4_arrange_57 (by decide) (fun hc => ?_) (fun hc => ?_)
  · have h := h.1 hc
    refine lv_iinc (v := (x6 + 1)) (lv' := [(6, .int (x6 + 1)), (0, .ref (a 0)), (1, .int x1), (2, .int x2), (3, .int x3), (4, .int x4), (5, .int x5), (7, .int x7)]) hx hb dX4_arrange_113 hl (k := 6) rfl rfl (by decide) rfl (fun ls hl => ?_)
    refine lv_goto (tgt := 45) hx hb dX4_arrange_116 (by decide) ?_
    exact hK45 _ _ _ _ _ _ _ _ _ _ hH (lv_sub hl [1, 2, 3, 4, 5, 6, 0] rfl) h
  · have h := h.2 hc
    refine lv_aload_n hx hb dX4_arrange_60 rfl (lv_at hl 0 rfl) ?_
    refine lv_iload_n hx hb dX4_arrange_61 rfl (lv_at hl 1 rfl) ?_
    refine lv_aload_n hx hb dX4_arrange_62 rfl (lv_at hl 0 rfl) ?_
    refine x_get (ci := 4) (CN := RX4) (T := TX4) (N := 20) E in_X4 hH 0 wM_g0 rfl 16 (by decide) kf_X4_52 rfl dX4_arrange_63 ?_
    refine lv_iload hx hb dX4_arrange_66 (lv_at hl 7 rfl) ?_
    obtain ⟨hi10, h⟩ := h
    refine x_iald E hH 13 0 wM_g16 rfl hi10 dX4_arrange_68 ?_
    refine x_ci (x_runV (As := [.int x1, .int ((mr C 16) (Int32.toNatClampNeg x7))]) (rest := []) E (c_X4_valueAt h) yk_X4_valueAt yi_X4_valueAt km_X4_103 ⟨Nat.le_of_ble_eq_true rfl, Nat.le_of_ble_eq_true rfl⟩ ⟨Nat.le_of_ble_eq_true rfl, Nat.le_of_ble_eq_true rfl⟩ hH (va_recv E.2.2.2.2.2.1 hH.1 (ci := 4) (q0 := 0) rfl wM_g0) hl.1 rfl rfl (lv_room (Nat.le_of_ble_eq_true rfl)) dX4_arrange_69) hH (fun r12 C11 H locs h hH => ?_)
    refine lv_aload_n hx hb dX4_arrange_72 rfl (lv_at hl 0 rfl) ?_
    refine lv_iload_n hx hb dX4_arrange_73 rfl (lv_at hl 1 rfl) ?_
    refine x_ci (x_runV (As := [.int x1]) (rest := [.int r12]) E (c_X4_bits h) yk_X4_bits yi_X4_bits km_X4_122 ⟨Nat.le_of_ble_eq_true rfl, Nat.le_of_ble_eq_true rfl⟩ ⟨Nat.le_of_ble_eq_true rfl, Nat.le_of_ble_eq_true rfl⟩ hH (va_recv E.2.2.2.2.2.1 hH.1 (ci := 4) (q0 := 0) rfl wM_g0) hl.1 rfl rfl (lv_room (Nat.le_of_ble_eq_true rfl)) dX4_arrange_74) hH (fun r14 C13 H locs h hH => ?_)
    refine lv_iconst (v := (1 : Int32)) hx hb dX4_arrange_77 (by decide) ?_
    refine lv_isub hx hb dX4_arrange_78 ?_
    refine lv_iload hx hb dX4_arrange_79 (lv_at hl 4 rfl) ?_
    refine lv_isub hx hb dX4_arrange_81 ?_
    refine lv_ishr hx hb dX4_arrange_82 ?_
    refine lv_iconst (v := (1 : Int32)) hx hb dX4_arrange_83 (by decide) ?_
    refine lv_iand hx hb dX4_arrange_84 ?_
    refine lv_iload hx hb dX4_arrange_85 (lv_at hl 6 rfl) ?_
    refine lv_icmp_ne (tgt := 107) hx hb dX4_arrange_87 (by decide) (fun hc => ?_) (fun hc => ?_)
    · have h := h.1 hc
      exact k_X4_arrange_107 E hK33 hK45 hK54 hH (lv_sub hl [0, 1, 2, 3, 4, 5, 6, 7] rfl) h
    · have h := h.2 hc
      refine lv_aload_n hx hb dX4_arrange_90 rfl (lv_at hl 0 rfl) ?_
      refine x_get (ci := 4) (CN := RX4) (T := TX4) (N := 20) E in_X4 hH 0 wM_g0 rfl 17 (by decide) kf_X4_55 rfl dX4_arrange_91 ?_
      refine lv_iload hx hb dX4_arrange_94 (lv_at hl 5 rfl) ?_
      refine lv_aload_n hx hb dX4_arrange_96 rfl (lv_at hl 0 rfl) ?_
      refine x_get (ci := 4) (CN := RX4) (T := TX4) (N := 20) E in_X4 hH 0 wM_g0 rfl 16 (by decide) kf_X4_52 rfl dX4_arrange_97 ?_
      refine lv_iload hx hb dX4_arrange_100 (lv_at hl 7 rfl) ?_
      refine x_iald E hH 13 0 wM_g16 rfl hi10 dX4_arrange_102 ?_
      obtain ⟨hi15, h⟩ := h
      refine x_iast E hH 14 0 wM_g17 rfl hi15 wM_s17 dX4_arrange_103 (fun H locs hH => ?_)
      refine lv_iinc (v := (x5 + 1)) (lv' := [(5, .int (x5 + 1)), (0, .ref (a 0)), (1, .int x1), (2, .int x2), (3, .int x3), (4, .int x4), (6, .int x6), (7, .int x7)]) hx hb dX4_arrange_104 hl (k := 5) rfl rfl (by decide) rfl (fun ls hl => ?_)
      exact k_X4_arrange_107 E hK33 hK45 hK54 hH (lv_sub hl [1, 2, 3, 4, 5, 0, 6, 7] rfl) h
theorem k_X4_arrange_54 {post : MS → Prop} (E : Cx p s m args meth c cX4_arrange 8 RX4 none D (tyW cI cS cO)) {K33 : MS → Int32 → Int32 → Int32 → Int32 → Prop} {K45 : MS → Int32 → Int32 → Int32 → Int32 → Int32 → Int32 → Prop} (hK33 : ∀ (C : MS) (x1 : Int32) (x2 : Int32) (x3 : Int32) (x4 : Int32) (H : Heap) (locs : List Loc) (ls : Array Slot), HX D (wM cI cS a C) A s.heap H locs → lv_has ls 8 [(0, .ref (a 0)), (1, .int x1), (2, .int x2), (3, .int x3), (4, .int x4)] → K33 C x1 x2 x3 x4 → W p l e (rmA 1 0 0) s m args below meth c H locs 0 0 (MQ below ((QV D (wM cI cS a) post) A) args s 0 0 A) (F0 m 33 ls [])) (hK45 : ∀ (C : MS) (x1 : Int32) (x2 : Int32) (x3 : Int32) (x4 : Int32) (x5 : Int32) (x6 : Int32) (H : Heap) (locs : List Loc) (ls : Array Slot), HX D (wM cI cS a C) A s.heap H locs → lv_has ls 8 [(0, .ref (a 0)), (1, .int x1), (2, .int x2), (3, .int x3), (4, .int x4), (5, .int x5), (6, .int x6)] → K45 C x1 x2 x3 x4 x5 x6 → W p l e (rmA 1 0 0) s m args below meth c H locs 0 0 (MQ below ((QV D (wM cI cS a) post) A) args s 0 0 A) (F0 m 45 ls [])) (n : Nat) : ∀ {C : MS} {x1 : Int32} {x2 : Int32} {x3 : Int32} {x4 : Int32} {x5 : Int32} {x6 : Int32} {x7 : Int32} {H : Heap} {locs : List Loc} {ls : Array Slot} (hH : HX D (wM cI cS a C) A s.heap H locs) (hl : lv_has ls 8 [(0, .ref (a 0)), (1, .int x1), (2, .int x2), (3, .int x3), (4, .int x4), (5, .int x5), (6, .int x6), (7, .int x7)]) (h : w_X4_arrange_54 post K33 K45 n C x1 x2 x3 x4 x5 x6 x7), W p l e (rmA 1 0 0) s m args below meth c H locs 0 0 (MQ below ((QV D (wM cI cS a) post) A) args s 0 0 A) (F0 m 54 ls []) := by
  induction n with
  | zero => intros; contradiction
  | succ n ih => intro C x1 x2 x3 x4 x5 x6 x7 H locs ls hH hl h; exact k_X4_arrange_54b E hK33 hK45 (fun C x1 x2 x3 x4 x5 x6 x7 H locs ls hH hl h => ih hH hl h) hH hl h
set_option maxHeartbeats 4000000 in
set_option maxRecDepth 100000 in
theorem k_X4_arrange_45b {post : MS → Prop} (E : Cx p s m args meth c cX4_arrange 8 RX4 none D (tyW cI cS cO)) {K33 : MS → Int32 → Int32 → Int32 → Int32 → Prop} (hK33 : ∀ (C : MS) (x1 : Int32) (x2 : Int32) (x3 : Int32) (x4 : Int32) (H : Heap) (locs : List Loc) (ls : Array Slot), HX D (wM cI cS a C) A s.heap H locs → lv_has ls 8 [(0, .ref (a 0)), (1, .int x1), (2, .int x2), (3, .int x3), (4, .int x4)] → K33 C x1 x2 x3 x4 → W p l e (rmA 1 0 0) s m args below meth c H locs 0 0 (MQ below ((QV D (wM cI cS a) post) A) args s 0 0 A) (F0 m 33 ls [])) {K45 : MS → Int32 → Int32 → Int32 → Int32 → Int32 → Int32 → Prop} (hK45 : ∀ (C : MS) (x1 : Int32) (x2 : Int32) (x3 : Int32) (x4 : Int32) (x5 : Int32) (x6 : Int32) (H : Heap) (locs : List Loc) (ls : Array Slot), HX D (wM cI cS a C) A s.heap H locs → lv_has ls 8 [(0, .ref (a 0)), (1, .int x1), (2, .int x2), (3, .int x3), (4, .int x4), (5, .int x5), (6, .int x6)] → K45 C x1 x2 x3 x4 x5 x6 → W p l e (rmA 1 0 0) s m args below meth c H locs 0 0 (MQ below ((QV D (wM cI cS a) post) A) args s 0 0 A) (F0 m 45 ls [])) {C : MS} {x1 : Int32} {x2 : Int32} {x3 : Int32} {x4 : Int32} {x5 : Int32} {x6 : Int32} {H : Heap} {locs : List Loc} {ls : Array Slot} (hH : HX D (wM cI cS a C) A s.heap H locs) (hl : lv_has ls 8 [(0, .ref (a 0)), (1, .int x1), (2, .int x2), (3, .int x3), (4, .int x4), (5, .int x5), (6, .int x6)]) (h : w_X4_arrange_45b post K33 K45 C x1 x2 x3 x4 x5 x6) : W p l e (rmA 1 0 0) s m args below meth c H locs 0 0 (MQ below ((QV D (wM cI cS a) post) A) args s 0 0 A) (F0 m 45 ls []) := by
  have hx := E.1
  have hb := E.2.1
  unfold w_X4_arrange_45b at h
  refine lv_iload hx hb dX4_arrange_45 (lv_at hl 6 rfl) ?_
  refine lv_iconst (v := (2 : Int32)) hx hb dX4_arrange_47 (by decide) ?_
  refine lv_icmp_ge (tgt := 119) hx hb dX4_arrange_48 (by decide) (fun hc => ?_) (fun hc => ?_)
  · have h := h.1 hc
    refine lv_iconst (v := (0 : Int32)) hx hb dX4_arrange_119 (by decide) ?_
    refine lv_istore (lv' := [(6, .int (0 : Int32)), (0, .ref (a 0)), (1, .int x1), (2, .int x2), (3, .int x3), (4, .int x4), (5, .int x5)]) hx hb dX4_arrange_120 hl (by decide) rfl (fun ls hl => ?_)
    obtain ⟨n, h⟩ := h
    exact k_X4_arrange_122 E hK33 n hH (lv_sub hl [1, 2, 3, 4, 5, 0] rfl) h
  · have h := h.2 hc
    refine lv_iconst (v := (0 : Int32)) hx hb dX4_arrange_51 (by decide) ?_
    refine lv_istore (lv' := [(7, .int (0 : Int32)), (0, .ref (a 0)), (1, .int x1), (2, .int x2), (3, .int x3), (4, .int x4), (5, .int x5), (6, .int x6)]) hx hb dX4_arrange_52 hl (by decide) rfl (fun ls hl => ?_)
    obtain ⟨n, h⟩ := h
    exact k_X4_arrange_54 E hK33 hK45 n hH (lv_sub hl [1, 2, 3, 4, 5, 6, 7, 0] rfl) h
theorem k_X4_arrange_45 {post : MS → Prop} (E : Cx p s m args meth c cX4_arrange 8 RX4 none D (tyW cI cS cO)) {K33 : MS → Int32 → Int32 → Int32 → Int32 → Prop} (hK33 : ∀ (C : MS) (x1 : Int32) (x2 : Int32) (x3 : Int32) (x4 : Int32) (H : Heap) (locs : List Loc) (ls : Array Slot), HX D (wM cI cS a C) A s.heap H locs → lv_has ls 8 [(0, .ref (a 0)), (1, .int x1), (2, .int x2), (3, .int x3), (4, .int x4)] → K33 C x1 x2 x3 x4 → W p l e (rmA 1 0 0) s m args below meth c H locs 0 0 (MQ below ((QV D (wM cI cS a) post) A) args s 0 0 A) (F0 m 33 ls [])) (n : Nat) : ∀ {C : MS} {x1 : Int32} {x2 : Int32} {x3 : Int32} {x4 : Int32} {x5 : Int32} {x6 : Int32} {H : Heap} {locs : List Loc} {ls : Array Slot} (hH : HX D (wM cI cS a C) A s.heap H locs) (hl : lv_has ls 8 [(0, .ref (a 0)), (1, .int x1), (2, .int x2), (3, .int x3), (4, .int x4), (5, .int x5), (6, .int x6)]) (h : w_X4_arrange_45 post K33 n C x1 x2 x3 x4 x5 x6), W p l e (rmA 1 0 0) s m args below meth c H locs 0 0 (MQ below ((QV D (wM cI cS a) post) A) args s 0 0 A) (F0 m 45 ls []) := by
  induction n with
  | zero => intros; contradiction
  | succ n ih => intro C x1 x2 x3 x4 x5 x6 H locs ls hH hl h; exact k_X4_arrange_45b E hK33 (fun C x1 x2 x3 x4 x5 x6 H locs ls hH hl h => ih hH hl h) hH hl h
set_option maxHeartbeats 4000000 in
set_option maxRecDepth 100000 in
theorem k_X4_arrange_33b {post : MS → Prop} (E : Cx p s m args meth c cX4_arrange 8 RX4 none D (tyW cI cS cO))  {K33 : MS → Int32 → Int32 → Int32 → Int32 → Prop} (hK33 : ∀ (C : MS) (x1 : Int32) (x2 : Int32) (x3 : Int32) (x4 : Int32) (H : Heap) (locs : List Loc) (ls : Array Slot), HX D (wM cI cS a C) A s.heap H locs → lv_has ls 8 [(0, .ref (a 0)), (1, .int x1), (2, .int x2), (3, .int x3), (4, .int x4)] → K33 C x1 x2 x3 x4 → W p l e (rmA 1 0 0) s m args below meth c H locs 0 0 (MQ below ((QV D (wM cI cS a) post) A) args s 0 0 A) (F0 m 33 ls [])) {C : MS} {x1 : Int32} {x2 : Int32} {x3 : Int32} {x4 : Int32} {H : Heap} {locs : List Loc} {ls : Array Slot} (hH : HX D (wM cI cS a C) A s.heap H locs) (hl : lv_has ls 8 [(0, .ref (a 0)), (1, .int x1), (2, .int x2), (3, .int x3), (4, .int x4)]) (h : w_X4_arrange_33b post K33 C x1 x2 x3 x4) : W p l e (rmA 1 0 0) s m args below meth c H locs 0 0 (MQ below ((QV D (wM cI cS a) post) A) args s 0 0 A) (F0 m 33 ls []) := by
  have hx := E.1
  have hb := E.2.1
  unfold w_X4_arrange_33b at h
  refine lv_iload hx hb dX4_arrange_33 (lv_at hl 4 rfl) ?_
  refine lv_iload_n hx hb dX4_arrange_35 rfl (lv_at hl 2 rfl) ?_
  refine lv_icmp_ge (tgt := 154) hx hb dX4_arrange_36 (by decide) (fun hc => ?_) (fun hc => ?_)
  · have h := h.1 hc
    exact x_vret E hH h dX4_arrange_154
  · have h := h.2 hc
    refine lv_iconst (v := (0 : Int32)) hx hb dX4_arrange_39 (by decide) ?_
    refine lv_istore (lv' := [(5, .int (0 : Int32)), (0, .ref (a 0)), (1, .int x1), (2, .int x2), (3, .int x3), (4, .int x4)]) hx hb dX4_arrange_40 hl (by decide) rfl (fun ls hl => ?_)
    refine lv_iconst (v := (0 : Int32)) hx hb dX4_arrange_42 (by decide) ?_
    refine lv_istore (lv' := [(6, .int (0 : Int32)), (5, .int (0 : Int32)), (0, .ref (a 0)), (1, .int x1), (2, .int x2), (3, .int x3), (4, .int x4)]) hx hb dX4_arrange_43 hl (by decide) rfl (fun ls hl => ?_)
    obtain ⟨n, h⟩ := h
    exact k_X4_arrange_45 E hK33 n hH (lv_sub hl [2, 3, 4, 5, 6, 1, 0] rfl) h
theorem k_X4_arrange_33 {post : MS → Prop} (E : Cx p s m args meth c cX4_arrange 8 RX4 none D (tyW cI cS cO))  (n : Nat) : ∀ {C : MS} {x1 : Int32} {x2 : Int32} {x3 : Int32} {x4 : Int32} {H : Heap} {locs : List Loc} {ls : Array Slot} (hH : HX D (wM cI cS a C) A s.heap H locs) (hl : lv_has ls 8 [(0, .ref (a 0)), (1, .int x1), (2, .int x2), (3, .int x3), (4, .int x4)]) (h : w_X4_arrange_33 post n C x1 x2 x3 x4), W p l e (rmA 1 0 0) s m args below meth c H locs 0 0 (MQ below ((QV D (wM cI cS a) post) A) args s 0 0 A) (F0 m 33 ls []) := by
  induction n with
  | zero => intros; contradiction
  | succ n ih => intro C x1 x2 x3 x4 H locs ls hH hl h; exact k_X4_arrange_33b E  (fun C x1 x2 x3 x4 H locs ls hH hl h => ih hH hl h) hH hl h
set_option maxHeartbeats 4000000 in
set_option maxRecDepth 100000 in
theorem k_X4_arrange_9b {post : MS → Prop} (E : Cx p s m args meth c cX4_arrange 8 RX4 none D (tyW cI cS cO))  {K9 : MS → Int32 → Int32 → Int32 → Int32 → Prop} (hK9 : ∀ (C : MS) (x1 : Int32) (x2 : Int32) (x3 : Int32) (x4 : Int32) (H : Heap) (locs : List Loc) (ls : Array Slot), HX D (wM cI cS a C) A s.heap H locs → lv_has ls 8 [(0, .ref (a 0)), (1, .int x1), (2, .int x2), (3, .int x3), (4, .int x4)] → K9 C x1 x2 x3 x4 → W p l e (rmA 1 0 0) s m args below meth c H locs 0 0 (MQ below ((QV D (wM cI cS a) post) A) args s 0 0 A) (F0 m 9 ls [])) {C : MS} {x1 : Int32} {x2 : Int32} {x3 : Int32} {x4 : Int32} {H : Heap} {locs : List Loc} {ls : Array Slot} (hH : HX D (wM cI cS a C) A s.heap H locs) (hl : lv_has ls 8 [(0, .ref (a 0)), (1, .int x1), (2, .int x2), (3, .int x3), (4, .int x4)]) (h : w_X4_arrange_9b post K9 C x1 x2 x3 x4) : W p l e (rmA 1 0 0) s m args below meth c H locs 0 0 (MQ below ((QV D (wM cI cS a) post) A) args s 0 0 A) (F0 m 9 ls []) := by
  have hx := E.1
  have hb := E.2.1
  unfold w_X4_arrange_9b at h
  refine lv_iload hx hb dX4_arrange_9 (lv_at hl 4 rfl) ?_
  refine lv_iload_n hx hb dX4_arrange_11 rfl (lv_at hl 3 rfl) ?_
  refine lv_icmp_ge (tgt := 30) hx hb dX4_arrange_12 (by decide) (fun hc => ?_) (fun hc => ?_)
  · have h := h.1 hc
    refine lv_iconst (v := (0 : Int32)) hx hb dX4_arrange_30 (by decide) ?_
    refine lv_istore (lv' := [(4, .int (0 : Int32)), (0, .ref (a 0)), (1, .int x1), (2, .int x2), (3, .int x3)]) hx hb dX4_arrange_31 hl (by decide) rfl (fun ls hl => ?_)
    obtain ⟨n, h⟩ := h
    exact k_X4_arrange_33 E  n hH (lv_sub hl [1, 2, 3, 4, 0] rfl) h
  · have h := h.2 hc
    refine lv_aload_n hx hb dX4_arrange_15 rfl (lv_at hl 0 rfl) ?_
    refine x_get (ci := 4) (CN := RX4) (T := TX4) (N := 20) E in_X4 hH 0 wM_g0 rfl 16 (by decide) kf_X4_52 rfl dX4_arrange_16 ?_
    refine lv_iload hx hb dX4_arrange_19 (lv_at hl 4 rfl) ?_
    refine lv_iload hx hb dX4_arrange_21 (lv_at hl 4 rfl) ?_
    obtain ⟨hi5, h⟩ := h
    refine x_iast E hH 13 0 wM_g16 rfl hi5 wM_s16 dX4_arrange_23 (fun H locs hH => ?_)
    refine lv_iinc (v := (x4 + 1)) (lv' := [(4, .int (x4 + 1)), (0, .ref (a 0)), (1, .int x1), (2, .int x2), (3, .int x3)]) hx hb dX4_arrange_24 hl (k := 4) rfl rfl (by decide) rfl (fun ls hl => ?_)
    refine lv_goto (tgt := 9) hx hb dX4_arrange_27 (by decide) ?_
    exact hK9 _ _ _ _ _ _ _ _ hH (lv_sub hl [1, 2, 3, 4, 0] rfl) h
theorem k_X4_arrange_9 {post : MS → Prop} (E : Cx p s m args meth c cX4_arrange 8 RX4 none D (tyW cI cS cO))  (n : Nat) : ∀ {C : MS} {x1 : Int32} {x2 : Int32} {x3 : Int32} {x4 : Int32} {H : Heap} {locs : List Loc} {ls : Array Slot} (hH : HX D (wM cI cS a C) A s.heap H locs) (hl : lv_has ls 8 [(0, .ref (a 0)), (1, .int x1), (2, .int x2), (3, .int x3), (4, .int x4)]) (h : w_X4_arrange_9 post n C x1 x2 x3 x4), W p l e (rmA 1 0 0) s m args below meth c H locs 0 0 (MQ below ((QV D (wM cI cS a) post) A) args s 0 0 A) (F0 m 9 ls []) := by
  induction n with
  | zero => intros; contradiction
  | succ n ih => intro C x1 x2 x3 x4 H locs ls hH hl h; exact k_X4_arrange_9b E  (fun C x1 x2 x3 x4 H locs ls hH hl h => ih hH hl h) hH hl h
set_option maxHeartbeats 4000000 in
set_option maxRecDepth 100000 in
theorem c_X4_arrange {l : Launch} {D : va_G} {cI cS cO : ClassId} {a : Nat → Nat} {C : MS} {x1 : Int32} {x2 : Int32} {post : MS → Prop} (h : w_X4_arrange post C x1 x2) : MetX l D (tyW cI cS cO) yX4_arrange cX4_arrange 8 none 1 0 0 [.ref (a 0), .int x1, .int x2] (wM cI cS a C) (QV D (wM cI cS a) post) := by
  refine x_ent (by decide) (Nat.le_of_ble_eq_true rfl) ?_
  intro p e s m below meth c ls E _ hH hl
  have hx := E.1
  have hb := E.2.1
  generalize va_A (wM cI cS a C) s.heap.size = A at hH ⊢
  have hl : lv_has ls 8 [(0, .ref (a 0)), (1, .int x1), (2, .int x2)] := hl
  unfold w_X4_arrange at h
  refine lv_aload_n hx hb dX4_arrange_0 rfl (lv_at hl 0 rfl) ?_
  refine lv_iload_n hx hb dX4_arrange_1 rfl (lv_at hl 1 rfl) ?_
  refine x_ci (x_runV (As := [.int x1]) (rest := []) E (c_X4_size h) yk_X4_size yi_X4_size km_X4_68 ⟨Nat.le_of_ble_eq_true rfl, Nat.le_of_ble_eq_true rfl⟩ ⟨Nat.le_of_ble_eq_true rfl, Nat.le_of_ble_eq_true rfl⟩ hH (va_recv E.2.2.2.2.2.1 hH.1 (ci := 4) (q0 := 0) rfl wM_g0) hl.1 rfl rfl (lv_room (Nat.le_of_ble_eq_true rfl)) dX4_arrange_2) hH (fun r2 C1 H locs h hH => ?_)
  refine lv_istore_n (lv' := [(3, .int r2), (0, .ref (a 0)), (1, .int x1), (2, .int x2)]) hx hb dX4_arrange_5 rfl hl (by decide) rfl (fun ls hl => ?_)
  refine lv_iconst (v := (0 : Int32)) hx hb dX4_arrange_6 (by decide) ?_
  refine lv_istore (lv' := [(4, .int (0 : Int32)), (3, .int r2), (0, .ref (a 0)), (1, .int x1), (2, .int x2)]) hx hb dX4_arrange_7 hl (by decide) rfl (fun ls hl => ?_)
  obtain ⟨n, h⟩ := h
  exact k_X4_arrange_9 E  n hH (lv_sub hl [2, 3, 4, 1, 0] rfl) h
set_option maxHeartbeats 4000000 in
set_option maxRecDepth 100000 in
theorem c_X4_lookPlane {l : Launch} {D : va_G} {cI cS cO : ClassId} {a : Nat → Nat} {C : MS} {x1 : Int32} {x2 : Int32} {post : Int32 → MS → Prop} (h : w_X4_lookPlane post C x1 x2) : MetX l D (tyW cI cS cO) yX4_lookPlane cX4_lookPlane 4 (some .int) 2 0 0 [.ref (a 0), .int x1, .int x2] (wM cI cS a C) (QI D (wM cI cS a) post) := by
  refine x_ent (by decide) (Nat.le_of_ble_eq_true rfl) ?_
  intro p e s m below meth c ls E _ hH hl
  have hx := E.1
  have hb := E.2.1
  generalize va_A (wM cI cS a C) s.heap.size = A at hH ⊢
  have hl : lv_has ls 4 [(0, .ref (a 0)), (1, .int x1), (2, .int x2)] := hl
  unfold w_X4_lookPlane at h
  refine lv_aload_n hx hb dX4_lookPlane_0 rfl (lv_at hl 0 rfl) ?_
  refine lv_iload_n hx hb dX4_lookPlane_1 rfl (lv_at hl 1 rfl) ?_
  refine x_ci (x_runV (As := [.int x1]) (rest := []) E (c_X4_look h) yk_X4_look yi_X4_look km_X4_72 ⟨Nat.le_of_ble_eq_true rfl, Nat.le_of_ble_eq_true rfl⟩ ⟨Nat.le_of_ble_eq_true rfl, Nat.le_of_ble_eq_true rfl⟩ hH (va_recv E.2.2.2.2.2.1 hH.1 (ci := 4) (q0 := 0) rfl wM_g0) hl.1 rfl rfl (lv_room (Nat.le_of_ble_eq_true rfl)) dX4_lookPlane_2) hH (fun r2 C1 H locs h hH => ?_)
  refine lv_istore_n (lv' := [(3, .int r2), (0, .ref (a 0)), (1, .int x1), (2, .int x2)]) hx hb dX4_lookPlane_5 rfl hl (by decide) rfl (fun ls hl => ?_)
  refine lv_iload_n hx hb dX4_lookPlane_6 rfl (lv_at hl 0 rfl) ?_
  refine lv_if_ge (tgt := 14) hx hb dX4_lookPlane_7 (by decide) (fun hc => ?_) (fun hc => ?_)
  · have h := h.1 hc
    refine lv_aload_n hx hb dX4_lookPlane_14 rfl (lv_at hl 1 rfl) ?_
    refine x_get (ci := 4) (CN := RX4) (T := TX4) (N := 20) E in_X4 hH 0 wM_g0 rfl 8 (by decide) kf_X4_31 rfl dX4_lookPlane_15 ?_
    refine lv_iload_n hx hb dX4_lookPlane_18 rfl (lv_at hl 2 rfl) ?_
    obtain ⟨hi3, h⟩ := h
    refine x_iald E hH 6 0 wM_g8 rfl hi3 dX4_lookPlane_19 ?_
    refine lv_iconst (v := (1 : Int32)) hx hb dX4_lookPlane_20 (by decide) ?_
    refine lv_icmp_ne (tgt := 29) hx hb dX4_lookPlane_21 (by decide) (fun hc => ?_) (fun hc => ?_)
    · have h := h.1 hc
      refine lv_iload_n hx hb dX4_lookPlane_29 rfl (lv_at hl 3 rfl) ?_
      refine lv_if_lt (tgt := 42) hx hb dX4_lookPlane_30 (by decide) (fun hc => ?_) (fun hc => ?_)
      · have h := h.1 hc
        refine lv_iconst (v := (-1 : Int32)) hx hb dX4_lookPlane_42 (by decide) ?_
        refine lv_goto (tgt := 47) hx hb dX4_lookPlane_43 (by decide) ?_
        exact x_iret E hH h dX4_lookPlane_47
      · have h := h.2 hc
        refine lv_iload_n hx hb dX4_lookPlane_33 rfl (lv_at hl 3 rfl) ?_
        refine lv_aload_n hx hb dX4_lookPlane_34 rfl (lv_at hl 1 rfl) ?_
        refine lv_iload_n hx hb dX4_lookPlane_35 rfl (lv_at hl 2 rfl) ?_
        refine x_ci (x_runV (As := [.int x1]) (rest := [.int x2]) E (c_X4_bits h) yk_X4_bits yi_X4_bits km_X4_122 ⟨Nat.le_of_ble_eq_true rfl, Nat.le_of_ble_eq_true rfl⟩ ⟨Nat.le_of_ble_eq_true rfl, Nat.le_of_ble_eq_true rfl⟩ hH (va_recv E.2.2.2.2.2.1 hH.1 (ci := 4) (q0 := 0) rfl wM_g0) hl.1 rfl rfl (lv_room (Nat.le_of_ble_eq_true rfl)) dX4_lookPlane_36) hH (fun r5 C4 H locs h hH => ?_)
        refine lv_icmp_lt (tgt := 46) hx hb dX4_lookPlane_39 (by decide) (fun hc => ?_) (fun hc => ?_)
        · have h := h.1 hc
          refine lv_iconst (v := (0 : Int32)) hx hb dX4_lookPlane_46 (by decide) ?_
          exact x_iret E hH h dX4_lookPlane_47
        · have h := h.2 hc
          refine lv_iconst (v := (-1 : Int32)) hx hb dX4_lookPlane_42 (by decide) ?_
          refine lv_goto (tgt := 47) hx hb dX4_lookPlane_43 (by decide) ?_
          exact x_iret E hH h dX4_lookPlane_47
    · have h := h.2 hc
      refine lv_bipush (v := (-3 : Int32)) hx hb dX4_lookPlane_24 (by decide) ?_
      refine lv_goto (tgt := 47) hx hb dX4_lookPlane_26 (by decide) ?_
      exact x_iret E hH h dX4_lookPlane_47
  · have h := h.2 hc
    refine lv_iload_n hx hb dX4_lookPlane_10 rfl (lv_at hl 0 rfl) ?_
    refine lv_goto (tgt := 47) hx hb dX4_lookPlane_11 (by decide) ?_
    exact x_iret E hH h dX4_lookPlane_47
set_option maxHeartbeats 4000000 in
set_option maxRecDepth 100000 in
theorem c_X4_bitOf {l : Launch} {D : va_G} {cI cS cO : ClassId} {a : Nat → Nat} {C : MS} {x1 : Int32} {x2 : Int32} {x3 : Int32} {post : Int32 → MS → Prop} (h : w_X4_bitOf post C x1 x2 x3) : MetX l D (tyW cI cS cO) yX4_bitOf cX4_bitOf 4 (some .int) 1 0 0 [.ref (a 0), .int x1, .int x2, .int x3] (wM cI cS a C) (QI D (wM cI cS a) post) := by
  refine x_ent (by decide) (Nat.le_of_ble_eq_true rfl) ?_
  intro p e s m below meth c ls E _ hH hl
  have hx := E.1
  have hb := E.2.1
  generalize va_A (wM cI cS a C) s.heap.size = A at hH ⊢
  have hl : lv_has ls 4 [(0, .ref (a 0)), (1, .int x1), (2, .int x2), (3, .int x3)] := hl
  unfold w_X4_bitOf at h
  refine lv_aload_n hx hb dX4_bitOf_0 rfl (lv_at hl 0 rfl) ?_
  refine lv_iload_n hx hb dX4_bitOf_1 rfl (lv_at hl 1 rfl) ?_
  refine lv_aload_n hx hb dX4_bitOf_2 rfl (lv_at hl 0 rfl) ?_
  refine x_get (ci := 4) (CN := RX4) (T := TX4) (N := 20) E in_X4 hH 0 wM_g0 rfl 16 (by decide) kf_X4_52 rfl dX4_bitOf_3 ?_
  refine lv_iload_n hx hb dX4_bitOf_6 rfl (lv_at hl 3 rfl) ?_
  obtain ⟨hi1, h⟩ := h
  refine x_iald E hH 13 0 wM_g16 rfl hi1 dX4_bitOf_7 ?_
  refine x_ci (x_runV (As := [.int x1, .int ((mr C 16) (Int32.toNatClampNeg x3))]) (rest := []) E (c_X4_valueAt h) yk_X4_valueAt yi_X4_valueAt km_X4_103 ⟨Nat.le_of_ble_eq_true rfl, Nat.le_of_ble_eq_true rfl⟩ ⟨Nat.le_of_ble_eq_true rfl, Nat.le_of_ble_eq_true rfl⟩ hH (va_recv E.2.2.2.2.2.1 hH.1 (ci := 4) (q0 := 0) rfl wM_g0) hl.1 rfl rfl (lv_room (Nat.le_of_ble_eq_true rfl)) dX4_bitOf_8) hH (fun r3 C2 H locs h hH => ?_)
  refine lv_aload_n hx hb dX4_bitOf_11 rfl (lv_at hl 0 rfl) ?_
  refine lv_iload_n hx hb dX4_bitOf_12 rfl (lv_at hl 1 rfl) ?_
  refine x_ci (x_runV (As := [.int x1]) (rest := [.int r3]) E (c_X4_bits h) yk_X4_bits yi_X4_bits km_X4_122 ⟨Nat.le_of_ble_eq_true rfl, Nat.le_of_ble_eq_true rfl⟩ ⟨Nat.le_of_ble_eq_true rfl, Nat.le_of_ble_eq_true rfl⟩ hH (va_recv E.2.2.2.2.2.1 hH.1 (ci := 4) (q0 := 0) rfl wM_g0) hl.1 rfl rfl (lv_room (Nat.le_of_ble_eq_true rfl)) dX4_bitOf_13) hH (fun r5 C4 H locs h hH => ?_)
  refine lv_iconst (v := (1 : Int32)) hx hb dX4_bitOf_16 (by decide) ?_
  refine lv_isub hx hb dX4_bitOf_17 ?_
  refine lv_iload_n hx hb dX4_bitOf_18 rfl (lv_at hl 2 rfl) ?_
  refine lv_isub hx hb dX4_bitOf_19 ?_
  refine lv_ishr hx hb dX4_bitOf_20 ?_
  refine lv_iconst (v := (1 : Int32)) hx hb dX4_bitOf_21 (by decide) ?_
  refine lv_iand hx hb dX4_bitOf_22 ?_
  exact x_iret E hH h dX4_bitOf_23
set_option maxHeartbeats 4000000 in
set_option maxRecDepth 100000 in
theorem k_X4_bit_38 {post : Int32 → MS → Prop} (E : Cx p s m args meth c cX4_bit 5 RX4 (some .int) D (tyW cI cS cO))  {C : MS} {s0 : Int32} {H : Heap} {locs : List Loc} {ls : Array Slot} (hH : HX D (wM cI cS a C) A s.heap H locs) (hl : lv_has ls 5 []) (h : w_X4_bit_38 post C s0) : W p l e (rmA 3 0 0) s m args below meth c H locs 0 0 (MQ below ((QI D (wM cI cS a) post) A) args s 0 0 A) (F0 m 38 ls [.int s0, .ref (a 0)]) := by
  have hx := E.1
  have hb := E.2.1
  unfold w_X4_bit_38 at h
  refine x_ci (x_runV (As := [.int s0]) (rest := []) E (c_X4_answer h) yk_X4_answer yi_X4_answer km_X4_86 ⟨Nat.le_of_ble_eq_true rfl, Nat.le_of_ble_eq_true rfl⟩ ⟨Nat.le_of_ble_eq_true rfl, Nat.le_of_ble_eq_true rfl⟩ hH (va_recv E.2.2.2.2.2.1 hH.1 (ci := 4) (q0 := 0) rfl wM_g0) hl.1 rfl rfl (lv_room (Nat.le_of_ble_eq_true rfl)) dX4_bit_38) hH (fun r10 C9 H locs h hH => ?_)
  exact x_iret E hH h dX4_bit_41
set_option maxHeartbeats 4000000 in
set_option maxRecDepth 100000 in
theorem k_X4_bit_26 {post : Int32 → MS → Prop} (E : Cx p s m args meth c cX4_bit 5 RX4 (some .int) D (tyW cI cS cO))  {C : MS} {x4 : Int32} {H : Heap} {locs : List Loc} {ls : Array Slot} (hH : HX D (wM cI cS a C) A s.heap H locs) (hl : lv_has ls 5 [(0, .ref (a 0)), (4, .int x4)]) (h : w_X4_bit_26 post C x4) : W p l e (rmA 3 0 0) s m args below meth c H locs 0 0 (MQ below ((QI D (wM cI cS a) post) A) args s 0 0 A) (F0 m 26 ls []) := by
  have hx := E.1
  have hb := E.2.1
  unfold w_X4_bit_26 at h
  refine lv_aload_n hx hb dX4_bit_26 rfl (lv_at hl 0 rfl) ?_
  refine lv_iload hx hb dX4_bit_27 (lv_at hl 1 rfl) ?_
  refine lv_if_ge (tgt := 37) hx hb dX4_bit_29 (by decide) (fun hc => ?_) (fun hc => ?_)
  · have h := h.1 hc
    refine lv_iconst (v := (-1 : Int32)) hx hb dX4_bit_37 (by decide) ?_
    exact k_X4_bit_38 E  hH (lv_sub hl [] rfl) h
  · have h := h.2 hc
    refine lv_iload hx hb dX4_bit_32 (lv_at hl 1 rfl) ?_
    refine lv_goto (tgt := 38) hx hb dX4_bit_34 (by decide) ?_
    exact k_X4_bit_38 E  hH (lv_sub hl [] rfl) h
set_option maxHeartbeats 4000000 in
set_option maxRecDepth 100000 in
theorem c_X4_bit {l : Launch} {D : va_G} {cI cS cO : ClassId} {a : Nat → Nat} {C : MS} {x1 : Int32} {x2 : Int32} {x3 : Int32} {post : Int32 → MS → Prop} (h : w_X4_bit post C x1 x2 x3) : MetX l D (tyW cI cS cO) yX4_bit cX4_bit 5 (some .int) 3 0 0 [.ref (a 0), .int x1, .int x2, .int x3] (wM cI cS a C) (QI D (wM cI cS a) post) := by
  refine x_ent (by decide) (Nat.le_of_ble_eq_true rfl) ?_
  intro p e s m below meth c ls E _ hH hl
  have hx := E.1
  have hb := E.2.1
  generalize va_A (wM cI cS a C) s.heap.size = A at hH ⊢
  have hl : lv_has ls 5 [(0, .ref (a 0)), (1, .int x1), (2, .int x2), (3, .int x3)] := hl
  unfold w_X4_bit at h
  refine lv_aload_n hx hb dX4_bit_0 rfl (lv_at hl 0 rfl) ?_
  refine lv_iload_n hx hb dX4_bit_1 rfl (lv_at hl 1 rfl) ?_
  refine lv_iload_n hx hb dX4_bit_2 rfl (lv_at hl 2 rfl) ?_
  refine x_ci (x_runV (As := [.int x1, .int x2]) (rest := []) E (c_X4_lookPlane h) yk_X4_lookPlane yi_X4_lookPlane km_X4_125 ⟨Nat.le_of_ble_eq_true rfl, Nat.le_of_ble_eq_true rfl⟩ ⟨Nat.le_of_ble_eq_true rfl, Nat.le_of_ble_eq_true rfl⟩ hH (va_recv E.2.2.2.2.2.1 hH.1 (ci := 4) (q0 := 0) rfl wM_g0) hl.1 rfl rfl (lv_room (Nat.le_of_ble_eq_true rfl)) dX4_bit_3) hH (fun r2 C1 H locs h hH => ?_)
  refine lv_istore (lv' := [(4, .int r2), (0, .ref (a 0)), (1, .int x1), (2, .int x2), (3, .int x3)]) hx hb dX4_bit_6 hl (by decide) rfl (fun ls hl => ?_)
  refine lv_iload hx hb dX4_bit_8 (lv_at hl 0 rfl) ?_
  refine lv_if_lt (tgt := 26) hx hb dX4_bit_10 (by decide) (fun hc => ?_) (fun hc => ?_)
  · have h := h.1 hc
    exact k_X4_bit_26 E  hH (lv_sub hl [1, 0] rfl) h
  · have h := h.2 hc
    refine lv_iload_n hx hb dX4_bit_13 rfl (lv_at hl 4 rfl) ?_
    refine lv_if_lt (tgt := 26) hx hb dX4_bit_14 (by decide) (fun hc => ?_) (fun hc => ?_)
    · have h := h.1 hc
      exact k_X4_bit_26 E  hH (lv_sub hl [1, 0] rfl) h
    · have h := h.2 hc
      refine lv_iload_n hx hb dX4_bit_17 rfl (lv_at hl 4 rfl) ?_
      refine lv_aload_n hx hb dX4_bit_18 rfl (lv_at hl 1 rfl) ?_
      refine lv_iload_n hx hb dX4_bit_19 rfl (lv_at hl 2 rfl) ?_
      refine x_ci (x_runV (As := [.int x1]) (rest := [.int x3]) E (c_X4_size h) yk_X4_size yi_X4_size km_X4_68 ⟨Nat.le_of_ble_eq_true rfl, Nat.le_of_ble_eq_true rfl⟩ ⟨Nat.le_of_ble_eq_true rfl, Nat.le_of_ble_eq_true rfl⟩ hH (va_recv E.2.2.2.2.2.1 hH.1 (ci := 4) (q0 := 0) rfl wM_g0) hl.1 rfl rfl (lv_room (Nat.le_of_ble_eq_true rfl)) dX4_bit_20) hH (fun r4 C3 H locs h hH => ?_)
      refine lv_icmp_lt (tgt := 42) hx hb dX4_bit_23 (by decide) (fun hc => ?_) (fun hc => ?_)
      · have h := h.1 hc
        refine lv_aload_n hx hb dX4_bit_42 rfl (lv_at hl 1 rfl) ?_
        refine lv_iload_n hx hb dX4_bit_43 rfl (lv_at hl 2 rfl) ?_
        refine lv_iload_n hx hb dX4_bit_44 rfl (lv_at hl 3 rfl) ?_
        refine x_cv (x_runV (As := [.int x1, .int x2]) (rest := []) E (c_X4_arrange h) yk_X4_arrange yi_X4_arrange km_X4_128 ⟨Nat.le_of_ble_eq_true rfl, Nat.le_of_ble_eq_true rfl⟩ ⟨Nat.le_of_ble_eq_true rfl, Nat.le_of_ble_eq_true rfl⟩ hH (va_recv E.2.2.2.2.2.1 hH.1 (ci := 4) (q0 := 0) rfl wM_g0) hl.1 rfl rfl (lv_room (Nat.le_of_ble_eq_true rfl)) dX4_bit_45) hH (fun C5 H locs h hH => ?_)
        refine lv_aload_n hx hb dX4_bit_48 rfl (lv_at hl 1 rfl) ?_
        refine lv_iload_n hx hb dX4_bit_49 rfl (lv_at hl 2 rfl) ?_
        refine lv_iload_n hx hb dX4_bit_50 rfl (lv_at hl 3 rfl) ?_
        refine lv_iload_n hx hb dX4_bit_51 rfl (lv_at hl 4 rfl) ?_
        refine x_ci (x_runV (As := [.int x1, .int x2, .int x3]) (rest := []) E (c_X4_bitOf h) yk_X4_bitOf yi_X4_bitOf km_X4_131 ⟨Nat.le_of_ble_eq_true rfl, Nat.le_of_ble_eq_true rfl⟩ ⟨Nat.le_of_ble_eq_true rfl, Nat.le_of_ble_eq_true rfl⟩ hH (va_recv E.2.2.2.2.2.1 hH.1 (ci := 4) (q0 := 0) rfl wM_g0) hl.1 rfl rfl (lv_room (Nat.le_of_ble_eq_true rfl)) dX4_bit_52) hH (fun r8 C7 H locs h hH => ?_)
        exact x_iret E hH h dX4_bit_55
      · have h := h.2 hc
        exact k_X4_bit_26 E  hH (lv_sub hl [1, 0] rfl) h
set_option maxHeartbeats 4000000 in
set_option maxRecDepth 100000 in
theorem k_X4_ones_54b {post : Int32 → MS → Prop} (E : Cx p s m args meth c cX4_ones 7 RX4 (some .int) D (tyW cI cS cO))  {K54 : MS → Int32 → Int32 → Int32 → Int32 → Int32 → Prop} (hK54 : ∀ (C : MS) (x1 : Int32) (x2 : Int32) (x3 : Int32) (x5 : Int32) (x6 : Int32) (H : Heap) (locs : List Loc) (ls : Array Slot), HX D (wM cI cS a C) A s.heap H locs → lv_has ls 7 [(0, .ref (a 0)), (1, .int x1), (2, .int x2), (3, .int x3), (5, .int x5), (6, .int x6)] → K54 C x1 x2 x3 x5 x6 → W p l e (rmA 3 0 0) s m args below meth c H locs 0 0 (MQ below ((QI D (wM cI cS a) post) A) args s 0 0 A) (F0 m 54 ls [])) {C : MS} {x1 : Int32} {x2 : Int32} {x3 : Int32} {x5 : Int32} {x6 : Int32} {H : Heap} {locs : List Loc} {ls : Array Slot} (hH : HX D (wM cI cS a C) A s.heap H locs) (hl : lv_has ls 7 [(0, .ref (a 0)), (1, .int x1), (2, .int x2), (3, .int x3), (5, .int x5), (6, .int x6)]) (h : w_X4_ones_54b post K54 C x1 x2 x3 x5 x6) : W p l e (rmA 3 0 0) s m args below meth c H locs 0 0 (MQ below ((QI D (wM cI cS a) post) A) args s 0 0 A) (F0 m 54 ls []) := by
  have hx := E.1
  have hb := E.2.1
  unfold w_X4_ones_54b at h
  refine lv_iload hx hb dX4_ones_54 (lv_at hl 5 rfl) ?_
  refine lv_iload_n hx hb dX4_ones_56 rfl (lv_at hl 3 rfl) ?_
  refine lv_icmp_ge (tgt := 79) hx hb dX4_ones_57 (by decide) (fun hc => ?_) (fun hc => ?_)
  · have h := h.1 hc
    refine lv_iload hx hb dX4_ones_79 (lv_at hl 4 rfl) ?_
    exact x_iret E hH h dX4_ones_81
  · have h := h.2 hc
    refine lv_iload hx hb dX4_ones_60 (lv_at hl 4 rfl) ?_
    refine lv_aload_n hx hb dX4_ones_62 rfl (lv_at hl 0 rfl) ?_
    refine lv_iload_n hx hb dX4_ones_63 rfl (lv_at hl 1 rfl) ?_
    refine lv_iload_n hx hb dX4_ones_64 rfl (lv_at hl 2 rfl) ?_
    refine lv_iload hx hb dX4_ones_65 (lv_at hl 5 rfl) ?_
    refine x_ci (x_runV (As := [.int x1, .int x2, .int x6]) (rest := [.int x5]) E (c_X4_bitOf h) yk_X4_bitOf yi_X4_bitOf km_X4_131 ⟨Nat.le_of_ble_eq_true rfl, Nat.le_of_ble_eq_true rfl⟩ ⟨Nat.le_of_ble_eq_true rfl, Nat.le_of_ble_eq_true rfl⟩ hH (va_recv E.2.2.2.2.2.1 hH.1 (ci := 4) (q0 := 0) rfl wM_g0) hl.1 rfl rfl (lv_room (Nat.le_of_ble_eq_true rfl)) dX4_ones_67) hH (fun r9 C8 H locs h hH => ?_)
    refine lv_iadd hx hb dX4_ones_70 ?_
    refine lv_istore (lv' := [(5, .int (x5 + r9)), (0, .ref (a 0)), (1, .int x1), (2, .int x2), (3, .int x3), (6, .int x6)]) hx hb dX4_ones_71 hl (by decide) rfl (fun ls hl => ?_)
    refine lv_iinc (v := (x6 + 1)) (lv' := [(6, .int (x6 + 1)), (5, .int (x5 + r9)), (0, .ref (a 0)), (1, .int x1), (2, .int x2), (3, .int x3)]) hx hb dX4_ones_73 hl (k := 5) rfl rfl (by decide) rfl (fun ls hl => ?_)
    refine lv_goto (tgt := 54) hx hb dX4_ones_76 (by decide) ?_
    exact hK54 _ _ _ _ _ _ _ _ _ hH (lv_sub hl [2, 3, 4, 5, 1, 0] rfl) h
theorem k_X4_ones_54 {post : Int32 → MS → Prop} (E : Cx p s m args meth c cX4_ones 7 RX4 (some .int) D (tyW cI cS cO))  (n : Nat) : ∀ {C : MS} {x1 : Int32} {x2 : Int32} {x3 : Int32} {x5 : Int32} {x6 : Int32} {H : Heap} {locs : List Loc} {ls : Array Slot} (hH : HX D (wM cI cS a C) A s.heap H locs) (hl : lv_has ls 7 [(0, .ref (a 0)), (1, .int x1), (2, .int x2), (3, .int x3), (5, .int x5), (6, .int x6)]) (h : w_X4_ones_54 post n C x1 x2 x3 x5 x6), W p l e (rmA 3 0 0) s m args below meth c H locs 0 0 (MQ below ((QI D (wM cI cS a) post) A) args s 0 0 A) (F0 m 54 ls []) := by
  induction n with
  | zero => intros; contradiction
  | succ n ih => intro C x1 x2 x3 x5 x6 H locs ls hH hl h; exact k_X4_ones_54b E  (fun C x1 x2 x3 x5 x6 H locs ls hH hl h => ih hH hl h) hH hl h
set_option maxHeartbeats 4000000 in
set_option maxRecDepth 100000 in
theorem k_X4_ones_38 {post : Int32 → MS → Prop} (E : Cx p s m args meth c cX4_ones 7 RX4 (some .int) D (tyW cI cS cO))  {C : MS} {s0 : Int32} {H : Heap} {locs : List Loc} {ls : Array Slot} (hH : HX D (wM cI cS a C) A s.heap H locs) (hl : lv_has ls 7 []) (h : w_X4_ones_38 post C s0) : W p l e (rmA 3 0 0) s m args below meth c H locs 0 0 (MQ below ((QI D (wM cI cS a) post) A) args s 0 0 A) (F0 m 38 ls [.int s0, .ref (a 0)]) := by
  have hx := E.1
  have hb := E.2.1
  unfold w_X4_ones_38 at h
  refine x_ci (x_runV (As := [.int s0]) (rest := []) E (c_X4_answer h) yk_X4_answer yi_X4_answer km_X4_86 ⟨Nat.le_of_ble_eq_true rfl, Nat.le_of_ble_eq_true rfl⟩ ⟨Nat.le_of_ble_eq_true rfl, Nat.le_of_ble_eq_true rfl⟩ hH (va_recv E.2.2.2.2.2.1 hH.1 (ci := 4) (q0 := 0) rfl wM_g0) hl.1 rfl rfl (lv_room (Nat.le_of_ble_eq_true rfl)) dX4_ones_38) hH (fun r11 C10 H locs h hH => ?_)
  exact x_iret E hH h dX4_ones_41
set_option maxHeartbeats 4000000 in
set_option maxRecDepth 100000 in
theorem k_X4_ones_26 {post : Int32 → MS → Prop} (E : Cx p s m args meth c cX4_ones 7 RX4 (some .int) D (tyW cI cS cO))  {C : MS} {x4 : Int32} {H : Heap} {locs : List Loc} {ls : Array Slot} (hH : HX D (wM cI cS a C) A s.heap H locs) (hl : lv_has ls 7 [(0, .ref (a 0)), (4, .int x4)]) (h : w_X4_ones_26 post C x4) : W p l e (rmA 3 0 0) s m args below meth c H locs 0 0 (MQ below ((QI D (wM cI cS a) post) A) args s 0 0 A) (F0 m 26 ls []) := by
  have hx := E.1
  have hb := E.2.1
  unfold w_X4_ones_26 at h
  refine lv_aload_n hx hb dX4_ones_26 rfl (lv_at hl 0 rfl) ?_
  refine lv_iload hx hb dX4_ones_27 (lv_at hl 1 rfl) ?_
  refine lv_if_ge (tgt := 37) hx hb dX4_ones_29 (by decide) (fun hc => ?_) (fun hc => ?_)
  · have h := h.1 hc
    refine lv_iconst (v := (-1 : Int32)) hx hb dX4_ones_37 (by decide) ?_
    exact k_X4_ones_38 E  hH (lv_sub hl [] rfl) h
  · have h := h.2 hc
    refine lv_iload hx hb dX4_ones_32 (lv_at hl 1 rfl) ?_
    refine lv_goto (tgt := 38) hx hb dX4_ones_34 (by decide) ?_
    exact k_X4_ones_38 E  hH (lv_sub hl [] rfl) h
set_option maxHeartbeats 4000000 in
set_option maxRecDepth 100000 in
theorem c_X4_ones {l : Launch} {D : va_G} {cI cS cO : ClassId} {a : Nat → Nat} {C : MS} {x1 : Int32} {x2 : Int32} {x3 : Int32} {post : Int32 → MS → Prop} (h : w_X4_ones post C x1 x2 x3) : MetX l D (tyW cI cS cO) yX4_ones cX4_ones 7 (some .int) 3 0 0 [.ref (a 0), .int x1, .int x2, .int x3] (wM cI cS a C) (QI D (wM cI cS a) post) := by
  refine x_ent (by decide) (Nat.le_of_ble_eq_true rfl) ?_
  intro p e s m below meth c ls E _ hH hl
  have hx := E.1
  have hb := E.2.1
  generalize va_A (wM cI cS a C) s.heap.size = A at hH ⊢
  have hl : lv_has ls 7 [(0, .ref (a 0)), (1, .int x1), (2, .int x2), (3, .int x3)] := hl
  unfold w_X4_ones at h
  refine lv_aload_n hx hb dX4_ones_0 rfl (lv_at hl 0 rfl) ?_
  refine lv_iload_n hx hb dX4_ones_1 rfl (lv_at hl 1 rfl) ?_
  refine lv_iload_n hx hb dX4_ones_2 rfl (lv_at hl 2 rfl) ?_
  refine x_ci (x_runV (As := [.int x1, .int x2]) (rest := []) E (c_X4_lookPlane h) yk_X4_lookPlane yi_X4_lookPlane km_X4_125 ⟨Nat.le_of_ble_eq_true rfl, Nat.le_of_ble_eq_true rfl⟩ ⟨Nat.le_of_ble_eq_true rfl, Nat.le_of_ble_eq_true rfl⟩ hH (va_recv E.2.2.2.2.2.1 hH.1 (ci := 4) (q0 := 0) rfl wM_g0) hl.1 rfl rfl (lv_room (Nat.le_of_ble_eq_true rfl)) dX4_ones_3) hH (fun r2 C1 H locs h hH => ?_)
  refine lv_istore (lv' := [(4, .int r2), (0, .ref (a 0)), (1, .int x1), (2, .int x2), (3, .int x3)]) hx hb dX4_ones_6 hl (by decide) rfl (fun ls hl => ?_)
  refine lv_iload hx hb dX4_ones_8 (lv_at hl 0 rfl) ?_
  refine lv_if_lt (tgt := 26) hx hb dX4_ones_10 (by decide) (fun hc => ?_) (fun hc => ?_)
  · have h := h.1 hc
    exact k_X4_ones_26 E  hH (lv_sub hl [1, 0] rfl) h
  · have h := h.2 hc
    refine lv_iload_n hx hb dX4_ones_13 rfl (lv_at hl 4 rfl) ?_
    refine lv_if_lt (tgt := 26) hx hb dX4_ones_14 (by decide) (fun hc => ?_) (fun hc => ?_)
    · have h := h.1 hc
      exact k_X4_ones_26 E  hH (lv_sub hl [1, 0] rfl) h
    · have h := h.2 hc
      refine lv_iload_n hx hb dX4_ones_17 rfl (lv_at hl 4 rfl) ?_
      refine lv_aload_n hx hb dX4_ones_18 rfl (lv_at hl 1 rfl) ?_
      refine lv_iload_n hx hb dX4_ones_19 rfl (lv_at hl 2 rfl) ?_
      refine x_ci (x_runV (As := [.int x1]) (rest := [.int x3]) E (c_X4_size h) yk_X4_size yi_X4_size km_X4_68 ⟨Nat.le_of_ble_eq_true rfl, Nat.le_of_ble_eq_true rfl⟩ ⟨Nat.le_of_ble_eq_true rfl, Nat.le_of_ble_eq_true rfl⟩ hH (va_recv E.2.2.2.2.2.1 hH.1 (ci := 4) (q0 := 0) rfl wM_g0) hl.1 rfl rfl (lv_room (Nat.le_of_ble_eq_true rfl)) dX4_ones_20) hH (fun r4 C3 H locs h hH => ?_)
      refine lv_icmp_le (tgt := 42) hx hb dX4_ones_23 (by decide) (fun hc => ?_) (fun hc => ?_)
      · have h := h.1 hc
        refine lv_aload_n hx hb dX4_ones_42 rfl (lv_at hl 1 rfl) ?_
        refine lv_iload_n hx hb dX4_ones_43 rfl (lv_at hl 2 rfl) ?_
        refine lv_iload_n hx hb dX4_ones_44 rfl (lv_at hl 3 rfl) ?_
        refine x_cv (x_runV (As := [.int x1, .int x2]) (rest := []) E (c_X4_arrange h) yk_X4_arrange yi_X4_arrange km_X4_128 ⟨Nat.le_of_ble_eq_true rfl, Nat.le_of_ble_eq_true rfl⟩ ⟨Nat.le_of_ble_eq_true rfl, Nat.le_of_ble_eq_true rfl⟩ hH (va_recv E.2.2.2.2.2.1 hH.1 (ci := 4) (q0 := 0) rfl wM_g0) hl.1 rfl rfl (lv_room (Nat.le_of_ble_eq_true rfl)) dX4_ones_45) hH (fun C5 H locs h hH => ?_)
        refine lv_iconst (v := (0 : Int32)) hx hb dX4_ones_48 (by decide) ?_
        refine lv_istore (lv' := [(5, .int (0 : Int32)), (4, .int r2), (0, .ref (a 0)), (1, .int x1), (2, .int x2), (3, .int x3)]) hx hb dX4_ones_49 hl (by decide) rfl (fun ls hl => ?_)
        refine lv_iconst (v := (0 : Int32)) hx hb dX4_ones_51 (by decide) ?_
        refine lv_istore (lv' := [(6, .int (0 : Int32)), (5, .int (0 : Int32)), (4, .int r2), (0, .ref (a 0)), (1, .int x1), (2, .int x2), (3, .int x3)]) hx hb dX4_ones_52 hl (by decide) rfl (fun ls hl => ?_)
        obtain ⟨n, h⟩ := h
        exact k_X4_ones_54 E  n hH (lv_sub hl [3, 4, 5, 6, 1, 0] rfl) h
      · have h := h.2 hc
        exact k_X4_ones_26 E  hH (lv_sub hl [1, 0] rfl) h
end WALKS_M2
