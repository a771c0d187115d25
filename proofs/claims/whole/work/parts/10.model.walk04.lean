section WALKS_M4
variable {p : Program} {l : Launch} {e : Env} {s : State} {m : MethodId} {args : Array Value} {below : List Frame} {meth : Method} {c : Code} {D : va_G} {cI cS cO : ClassId} {a ad : Nat → Nat} {A : Nat → Prop}
set_option maxHeartbeats 4000000 in
set_option maxRecDepth 100000 in
theorem k_X4_often_80 {post : Int32 → MS → Prop} (E : Cx p s m args meth c cX4_often 9 RX4 (some .int) D (tyW cI cS cO)) {K41 : MS → Int32 → Int32 → Prop} {K49 : MS → Int32 → Int32 → Int32 → Prop} (hK41 : ∀ (C : MS) (x6 : Int32) (x7 : Int32) (H : Heap) (locs : List Loc) (ls : Array Slot), HX D (wM cI cS a C) A s.heap H locs → lv_has ls 9 [(0, .ref (a 0)), (6, .int x6), (7, .int x7)] → K41 C x6 x7 → W p l e (rmA 3 0 0) s m args below meth c H locs 0 0 (MQ below ((QI D (wM cI cS a) post) A) args s 0 0 A) (F0 m 41 ls [])) (hK49 : ∀ (C : MS) (x6 : Int32) (x7 : Int32) (x8 : Int32) (H : Heap) (locs : List Loc) (ls : Array Slot), HX D (wM cI cS a C) A s.heap H locs → lv_has ls 9 [(0, .ref (a 0)), (6, .int x6), (7, .int x7), (8, .int x8)] → K49 C x6 x7 x8 → W p l e (rmA 3 0 0) s m args below meth c H locs 0 0 (MQ below ((QI D (wM cI cS a) post) A) args s 0 0 A) (F0 m 49 ls [])) {C : MS} {x6 : Int32} {x7 : Int32} {x8 : Int32} {H : Heap} {locs : List Loc} {ls : Array Slot} (hH : HX D (wM cI cS a C) A s.heap H locs) (hl : lv_has ls 9 [(0, .ref (a 0)), (6, .int x6), (7, .int x7), (8, .int x8)]) (h : w_X4_often_80 post K41 K49 C x6 x7 x8) : W p l e (rmA 3 0 0) s m args below meth c H locs 0 0 (MQ below ((QI D (wM cI cS a) post) A) args s 0 0 A) (F0 m 80 ls []) := by
  have hx := E.1
  have hb := E.2.1
  unfold w_X4_often_80 at h
  refine lv_iinc (v := (x8 + 1)) (lv' := [(8, .int (x8 + 1)), (0, .ref (a 0)), (6, .int x6), (7, .int x7)]) hx hb dX4_often_80 hl (k := 3) rfl rfl (by decide) rfl (fun ls hl => ?_)
  refine lv_goto (tgt := 49) hx hb dX4_often_83 (by decide) ?_
  exact hK49 _ _ _ _ _ _ _ hH (lv_sub hl [1, 2, 3, 0] rfl) h
set_option maxHeartbeats 4000000 in
set_option maxRecDepth 100000 in
theorem k_X4_often_49b {post : Int32 → MS → Prop} (E : Cx p s m args meth c cX4_often 9 RX4 (some .int) D (tyW cI cS cO)) {K41 : MS → Int32 → Int32 → Prop} (hK41 : ∀ (C : MS) (x6 : Int32) (x7 : Int32) (H : Heap) (locs : List Loc) (ls : Array Slot), HX D (wM cI cS a C) A s.heap H locs → lv_has ls 9 [(0, .ref (a 0)), (6, .int x6), (7, .int x7)] → K41 C x6 x7 → W p l e (rmA 3 0 0) s m args below meth c H locs 0 0 (MQ below ((QI D (wM cI cS a) post) A) args s 0 0 A) (F0 m 41 ls [])) {K49 : MS → Int32 → Int32 → Int32 → Prop} (hK49 : ∀ (C : MS) (x6 : Int32) (x7 : Int32) (x8 : Int32) (H : Heap) (locs : List Loc) (ls : Array Slot), HX D (wM cI cS a C) A s.heap H locs → lv_has ls 9 [(0, .ref (a 0)), (6, .int x6), (7, .int x7), (8, .int x8)] → K49 C x6 x7 x8 → W p l e (rmA 3 0 0) s m args below meth c H locs 0 0 (MQ below ((QI D (wM cI cS a) post) A) args s 0 0 A) (F0 m 49 ls [])) {C : MS} {x6 : Int32} {x7 : Int32} {x8 : Int32} {H : Heap} {locs : List Loc} {ls : Array Slot} (hH : HX D (wM cI cS a C) A s.heap H locs) (hl : lv_has ls 9 [(0, .ref (a 0)), (6, .int x6), (7, .int x7), (8, .int x8)]) (h : w_X4_often_49b post K41 K49 C x6 x7 x8) : W p l e (rmA 3 0 0) s m args below meth c H locs 0 0 (MQ below ((QI D (wM cI cS a) post) A) args s 0 0 A) (F0 m 49 ls []) := by
  have hx := E.1
  have hb := E.2.1
  unfold w_X4_often_49b at h
  refine lv_iload hx hb dX4_often_49 (lv_at hl 3 rfl) ?_
  refine lv_sipush (v := (1024 : Int32)) hx hb dX4_often_51 (by decide) ?_
  refine lv_icmp_ge (tgt := 86) hx hb dX4_often_54 (by decide) (fun hc => ?_) (fun hc => ?_)
  · have h := h.1 hc
    refine lv_iinc (v := (x7 + (-1))) (lv' := [(7, .int (x7 + (-1))), (0, .ref (a 0)), (6, .int x6), (8, .int x8)]) hx hb dX4_often_86 hl (k := 2) rfl rfl (by decide) rfl (fun ls hl => ?_)
    refine lv_goto (tgt := 41) hx hb dX4_often_89 (by decide) ?_
    exact hK41 _ _ _ _ _ _ hH (lv_sub hl [1, 2, 0] rfl) h
  · have h := h.2 hc
    refine lv_aload_n hx hb dX4_often_57 rfl (lv_at hl 0 rfl) ?_
    refine x_get (ci := 4) (CN := RX4) (T := TX4) (N := 20) E in_X4 hH 0 wM_g0 rfl 18 (by decide) kf_X4_58 rfl dX4_often_58 ?_
    refine lv_iload hx hb dX4_often_61 (lv_at hl 3 rfl) ?_
    obtain ⟨hi11, h⟩ := h
    refine x_iald E hH 15 0 wM_g18 rfl hi11 dX4_often_63 ?_
    refine lv_iload hx hb dX4_often_64 (lv_at hl 2 rfl) ?_
    refine lv_icmp_ne (tgt := 80) hx hb dX4_often_66 (by decide) (fun hc => ?_) (fun hc => ?_)
    · have h := h.1 hc
      exact k_X4_often_80 E hK41 hK49 hH (lv_sub hl [0, 1, 2, 3] rfl) h
    · have h := h.2 hc
      refine lv_iload hx hb dX4_often_69 (lv_at hl 1 rfl) ?_
      refine lv_if_ne (tgt := 77) hx hb dX4_often_71 (by decide) (fun hc => ?_) (fun hc => ?_)
      · have h := h.1 hc
        refine lv_iinc (v := (x6 + (-1))) (lv' := [(6, .int (x6 + (-1))), (0, .ref (a 0)), (7, .int x7), (8, .int x8)]) hx hb dX4_often_77 hl (k := 1) rfl rfl (by decide) rfl (fun ls hl => ?_)
        exact k_X4_often_80 E hK41 hK49 hH (lv_sub hl [1, 0, 2, 3] rfl) h
      · have h := h.2 hc
        refine lv_iload hx hb dX4_often_74 (lv_at hl 3 rfl) ?_
        exact x_iret E hH h dX4_often_76
theorem k_X4_often_49 {post : Int32 → MS → Prop} (E : Cx p s m args meth c cX4_often 9 RX4 (some .int) D (tyW cI cS cO)) {K41 : MS → Int32 → Int32 → Prop} (hK41 : ∀ (C : MS) (x6 : Int32) (x7 : Int32) (H : Heap) (locs : List Loc) (ls : Array Slot), HX D (wM cI cS a C) A s.heap H locs → lv_has ls 9 [(0, .ref (a 0)), (6, .int x6), (7, .int x7)] → K41 C x6 x7 → W p l e (rmA 3 0 0) s m args below meth c H locs 0 0 (MQ below ((QI D (wM cI cS a) post) A) args s 0 0 A) (F0 m 41 ls [])) (n : Nat) : ∀ {C : MS} {x6 : Int32} {x7 : Int32} {x8 : Int32} {H : Heap} {locs : List Loc} {ls : Array Slot} (hH : HX D (wM cI cS a C) A s.heap H locs) (hl : lv_has ls 9 [(0, .ref (a 0)), (6, .int x6), (7, .int x7), (8, .int x8)]) (h : w_X4_often_49 post K41 n C x6 x7 x8), W p l e (rmA 3 0 0) s m args below meth c H locs 0 0 (MQ below ((QI D (wM cI cS a) post) A) args s 0 0 A) (F0 m 49 ls []) := by
  induction n with
  | zero => intros; contradiction
  | succ n ih => intro C x6 x7 x8 H locs ls hH hl h; exact k_X4_often_49b E hK41 (fun C x6 x7 x8 H locs ls hH hl h => ih hH hl h) hH hl h
set_option maxHeartbeats 4000000 in
set_option maxRecDepth 100000 in
theorem k_X4_often_41b {post : Int32 → MS → Prop} (E : Cx p s m args meth c cX4_often 9 RX4 (some .int) D (tyW cI cS cO))  {K41 : MS → Int32 → Int32 → Prop} (hK41 : ∀ (C : MS) (x6 : Int32) (x7 : Int32) (H : Heap) (locs : List Loc) (ls : Array Slot), HX D (wM cI cS a C) A s.heap H locs → lv_has ls 9 [(0, .ref (a 0)), (6, .int x6), (7, .int x7)] → K41 C x6 x7 → W p l e (rmA 3 0 0) s m args below meth c H locs 0 0 (MQ below ((QI D (wM cI cS a) post) A) args s 0 0 A) (F0 m 41 ls [])) {C : MS} {x6 : Int32} {x7 : Int32} {H : Heap} {locs : List Loc} {ls : Array Slot} (hH : HX D (wM cI cS a C) A s.heap H locs) (hl : lv_has ls 9 [(0, .ref (a 0)), (6, .int x6), (7, .int x7)]) (h : w_X4_often_41b post K41 C x6 x7) : W p l e (rmA 3 0 0) s m args below meth c H locs 0 0 (MQ below ((QI D (wM cI cS a) post) A) args s 0 0 A) (F0 m 41 ls []) := by
  have hx := E.1
  have hb := E.2.1
  unfold w_X4_often_41b at h
  refine lv_iload hx hb dX4_often_41 (lv_at hl 2 rfl) ?_
  refine lv_if_le (tgt := 92) hx hb dX4_often_43 (by decide) (fun hc => ?_) (fun hc => ?_)
  · have h := h.1 hc
    refine lv_aload_n hx hb dX4_often_92 rfl (lv_at hl 0 rfl) ?_
    refine lv_bipush (v := (-6 : Int32)) hx hb dX4_often_93 (by decide) ?_
    refine x_ci (x_runV (As := [.int (-6 : Int32)]) (rest := []) E (c_X4_answer h) yk_X4_answer yi_X4_answer km_X4_86 ⟨Nat.le_of_ble_eq_true rfl, Nat.le_of_ble_eq_true rfl⟩ ⟨Nat.le_of_ble_eq_true rfl, Nat.le_of_ble_eq_true rfl⟩ hH (va_recv E.2.2.2.2.2.1 hH.1 (ci := 4) (q0 := 0) rfl wM_g0) hl.1 rfl rfl (lv_room (Nat.le_of_ble_eq_true rfl)) dX4_often_95) hH (fun r9 C8 H locs h hH => ?_)
    exact x_iret E hH h dX4_often_98
  · have h := h.2 hc
    refine lv_iconst (v := (0 : Int32)) hx hb dX4_often_46 (by decide) ?_
    refine lv_istore (lv' := [(8, .int (0 : Int32)), (0, .ref (a 0)), (6, .int x6), (7, .int x7)]) hx hb dX4_often_47 hl (by decide) rfl (fun ls hl => ?_)
    obtain ⟨n, h⟩ := h
    exact k_X4_often_49 E hK41 n hH (lv_sub hl [1, 2, 3, 0] rfl) h
theorem k_X4_often_41 {post : Int32 → MS → Prop} (E : Cx p s m args meth c cX4_often 9 RX4 (some .int) D (tyW cI cS cO))  (n : Nat) : ∀ {C : MS} {x6 : Int32} {x7 : Int32} {H : Heap} {locs : List Loc} {ls : Array Slot} (hH : HX D (wM cI cS a C) A s.heap H locs) (hl : lv_has ls 9 [(0, .ref (a 0)), (6, .int x6), (7, .int x7)]) (h : w_X4_often_41 post n C x6 x7), W p l e (rmA 3 0 0) s m args below meth c H locs 0 0 (MQ below ((QI D (wM cI cS a) post) A) args s 0 0 A) (F0 m 41 ls []) := by
  induction n with
  | zero => intros; contradiction
  | succ n ih => intro C x6 x7 H locs ls hH hl h; exact k_X4_often_41b E  (fun C x6 x7 H locs ls hH hl h => ih hH hl h) hH hl h
set_option maxHeartbeats 4000000 in
set_option maxRecDepth 100000 in
theorem c_X4_often {l : Launch} {D : va_G} {cI cS cO : ClassId} {a : Nat → Nat} {C : MS} {x1 : Int32} {x2 : Int32} {x3 : Int32} {x4 : Int32} {post : Int32 → MS → Prop} (h : w_X4_often post C x1 x2 x3 x4) : MetX l D (tyW cI cS cO) yX4_often cX4_often 9 (some .int) 3 0 0 [.ref (a 0), .int x1, .int x2, .int x3, .int x4] (wM cI cS a C) (QI D (wM cI cS a) post) := by
  refine x_ent (by decide) (Nat.le_of_ble_eq_true rfl) ?_
  intro p e s m below meth c ls E _ hH hl
  have hx := E.1
  have hb := E.2.1
  generalize va_A (wM cI cS a C) s.heap.size = A at hH ⊢
  have hl : lv_has ls 9 [(0, .ref (a 0)), (1, .int x1), (2, .int x2), (3, .int x3), (4, .int x4)] := hl
  unfold w_X4_often at h
  refine lv_aload_n hx hb dX4_often_0 rfl (lv_at hl 0 rfl) ?_
  refine lv_iload_n hx hb dX4_often_1 rfl (lv_at hl 1 rfl) ?_
  refine lv_iload_n hx hb dX4_often_2 rfl (lv_at hl 2 rfl) ?_
  refine lv_iload_n hx hb dX4_often_3 rfl (lv_at hl 3 rfl) ?_
  refine x_ci (x_runV (As := [.int x1, .int x2, .int x3]) (rest := []) E (c_X4_lookSpan h) yk_X4_lookSpan yi_X4_lookSpan km_X4_99 ⟨Nat.le_of_ble_eq_true rfl, Nat.le_of_ble_eq_true rfl⟩ ⟨Nat.le_of_ble_eq_true rfl, Nat.le_of_ble_eq_true rfl⟩ hH (va_recv E.2.2.2.2.2.1 hH.1 (ci := 4) (q0 := 0) rfl wM_g0) hl.1 rfl rfl (lv_room (Nat.le_of_ble_eq_true rfl)) dX4_often_4) hH (fun r2 C1 H locs h hH => ?_)
  refine lv_istore (lv' := [(5, .int r2), (0, .ref (a 0)), (1, .int x1), (2, .int x2), (3, .int x3), (4, .int x4)]) hx hb dX4_often_7 hl (by decide) rfl (fun ls hl => ?_)
  refine lv_iload hx hb dX4_often_9 (lv_at hl 0 rfl) ?_
  refine lv_if_ge (tgt := 21) hx hb dX4_often_11 (by decide) (fun hc => ?_) (fun hc => ?_)
  · have h := h.1 hc
    refine lv_aload_n hx hb dX4_often_21 rfl (lv_at hl 1 rfl) ?_
    refine lv_iload_n hx hb dX4_often_22 rfl (lv_at hl 2 rfl) ?_
    refine lv_iload_n hx hb dX4_often_23 rfl (lv_at hl 3 rfl) ?_
    refine lv_iload_n hx hb dX4_often_24 rfl (lv_at hl 4 rfl) ?_
    refine lv_aload_n hx hb dX4_often_25 rfl (lv_at hl 1 rfl) ?_
    refine x_get (ci := 4) (CN := RX4) (T := TX4) (N := 20) E in_X4 hH 0 wM_g0 rfl 18 (by decide) kf_X4_58 rfl dX4_often_26 ?_
    refine x_cv (x_runV (As := [.int x1, .int x2, .int x3, .ref (a 18)]) (rest := []) E (c_X4_count18 h) yk_X4_count yi_X4_count km_X4_134 ⟨Nat.le_of_ble_eq_true rfl, Nat.le_of_ble_eq_true rfl⟩ ⟨Nat.le_of_ble_eq_true rfl, Nat.le_of_ble_eq_true rfl⟩ hH (va_recv E.2.2.2.2.2.1 hH.1 (ci := 4) (q0 := 0) rfl wM_g0) hl.1 rfl rfl (lv_room (Nat.le_of_ble_eq_true rfl)) dX4_often_29) hH (fun C3 H locs h hH => ?_)
    refine lv_iload hx hb dX4_often_32 (lv_at hl 5 rfl) ?_
    refine lv_istore (lv' := [(6, .int x4), (5, .int r2), (0, .ref (a 0)), (1, .int x1), (2, .int x2), (3, .int x3), (4, .int x4)]) hx hb dX4_often_34 hl (by decide) rfl (fun ls hl => ?_)
    refine lv_iload_n hx hb dX4_often_36 rfl (lv_at hl 5 rfl) ?_
    refine lv_iload_n hx hb dX4_often_37 rfl (lv_at hl 4 rfl) ?_
    refine lv_isub hx hb dX4_often_38 ?_
    refine lv_istore (lv' := [(7, .int (x3 - x2)), (6, .int x4), (5, .int r2), (0, .ref (a 0)), (1, .int x1), (2, .int x2), (3, .int x3), (4, .int x4)]) hx hb dX4_often_39 hl (by decide) rfl (fun ls hl => ?_)
    obtain ⟨n, h⟩ := h
    exact k_X4_often_41 E  n hH (lv_sub hl [3, 1, 0] rfl) h
  · have h := h.2 hc
    refine lv_aload_n hx hb dX4_often_14 rfl (lv_at hl 1 rfl) ?_
    refine lv_iload hx hb dX4_often_15 (lv_at hl 0 rfl) ?_
    refine x_ci (x_runV (As := [.int r2]) (rest := []) E (c_X4_answer h) yk_X4_answer yi_X4_answer km_X4_86 ⟨Nat.le_of_ble_eq_true rfl, Nat.le_of_ble_eq_true rfl⟩ ⟨Nat.le_of_ble_eq_true rfl, Nat.le_of_ble_eq_true rfl⟩ hH (va_recv E.2.2.2.2.2.1 hH.1 (ci := 4) (q0 := 0) rfl wM_g0) hl.1 rfl rfl (lv_room (Nat.le_of_ble_eq_true rfl)) dX4_often_17) hH (fun r7 C6 H locs h hH => ?_)
    exact x_iret E hH h dX4_often_20
set_option maxHeartbeats 4000000 in
set_option maxRecDepth 100000 in
theorem k_X4_distinct_63 {post : Int32 → MS → Prop} (E : Cx p s m args meth c cX4_distinct 7 RX4 (some .int) D (tyW cI cS cO)) {K38 : MS → Int32 → Int32 → Prop} (hK38 : ∀ (C : MS) (x5 : Int32) (x6 : Int32) (H : Heap) (locs : List Loc) (ls : Array Slot), HX D (wM cI cS a C) A s.heap H locs → lv_has ls 7 [(0, .ref (a 0)), (5, .int x5), (6, .int x6)] → K38 C x5 x6 → W p l e (rmA 3 0 0) s m args below meth c H locs 0 0 (MQ below ((QI D (wM cI cS a) post) A) args s 0 0 A) (F0 m 38 ls [])) {C : MS} {x6 : Int32} {s0 : Int32} {s1 : Int32} {H : Heap} {locs : List Loc} {ls : Array Slot} (hH : HX D (wM cI cS a C) A s.heap H locs) (hl : lv_has ls 7 [(0, .ref (a 0)), (6, .int x6)]) (h : w_X4_distinct_63 post K38 C x6 s0 s1) : W p l e (rmA 3 0 0) s m args below meth c H locs 0 0 (MQ below ((QI D (wM cI cS a) post) A) args s 0 0 A) (F0 m 63 ls [.int s0, .int s1]) := by
  have hx := E.1
  have hb := E.2.1
  unfold w_X4_distinct_63 at h
  refine lv_iadd hx hb dX4_distinct_63 ?_
  refine lv_istore (lv' := [(5, .int (s1 + s0)), (0, .ref (a 0)), (6, .int x6)]) hx hb dX4_distinct_64 hl (by decide) rfl (fun ls hl => ?_)
  refine lv_iinc (v := (x6 + 1)) (lv' := [(6, .int (x6 + 1)), (5, .int (s1 + s0)), (0, .ref (a 0))]) hx hb dX4_distinct_66 hl (k := 2) rfl rfl (by decide) rfl (fun ls hl => ?_)
  refine lv_goto (tgt := 38) hx hb dX4_distinct_69 (by decide) ?_
  exact hK38 _ _ _ _ _ _ hH (lv_sub hl [2, 1, 0] rfl) h
set_option maxHeartbeats 4000000 in
set_option maxRecDepth 100000 in
theorem k_X4_distinct_38b {post : Int32 → MS → Prop} (E : Cx p s m args meth c cX4_distinct 7 RX4 (some .int) D (tyW cI cS cO))  {K38 : MS → Int32 → Int32 → Prop} (hK38 : ∀ (C : MS) (x5 : Int32) (x6 : Int32) (H : Heap) (locs : List Loc) (ls : Array Slot), HX D (wM cI cS a C) A s.heap H locs → lv_has ls 7 [(0, .ref (a 0)), (5, .int x5), (6, .int x6)] → K38 C x5 x6 → W p l e (rmA 3 0 0) s m args below meth c H locs 0 0 (MQ below ((QI D (wM cI cS a) post) A) args s 0 0 A) (F0 m 38 ls [])) {C : MS} {x5 : Int32} {x6 : Int32} {H : Heap} {locs : List Loc} {ls : Array Slot} (hH : HX D (wM cI cS a C) A s.heap H locs) (hl : lv_has ls 7 [(0, .ref (a 0)), (5, .int x5), (6, .int x6)]) (h : w_X4_distinct_38b post K38 C x5 x6) : W p l e (rmA 3 0 0) s m args below meth c H locs 0 0 (MQ below ((QI D (wM cI cS a) post) A) args s 0 0 A) (F0 m 38 ls []) := by
  have hx := E.1
  have hb := E.2.1
  unfold w_X4_distinct_38b at h
  refine lv_iload hx hb dX4_distinct_38 (lv_at hl 2 rfl) ?_
  refine lv_sipush (v := (1024 : Int32)) hx hb dX4_distinct_40 (by decide) ?_
  refine lv_icmp_ge (tgt := 72) hx hb dX4_distinct_43 (by decide) (fun hc => ?_) (fun hc => ?_)
  · have h := h.1 hc
    refine lv_iload hx hb dX4_distinct_72 (lv_at hl 1 rfl) ?_
    exact x_iret E hH h dX4_distinct_74
  · have h := h.2 hc
    refine lv_iload hx hb dX4_distinct_46 (lv_at hl 1 rfl) ?_
    refine lv_aload_n hx hb dX4_distinct_48 rfl (lv_at hl 0 rfl) ?_
    refine x_get (ci := 4) (CN := RX4) (T := TX4) (N := 20) E in_X4 hH 0 wM_g0 rfl 18 (by decide) kf_X4_58 rfl dX4_distinct_49 ?_
    refine lv_iload hx hb dX4_distinct_52 (lv_at hl 2 rfl) ?_
    obtain ⟨hi8, h⟩ := h
    refine x_iald E hH 15 0 wM_g18 rfl hi8 dX4_distinct_54 ?_
    refine lv_if_le (tgt := 62) hx hb dX4_distinct_55 (by decide) (fun hc => ?_) (fun hc => ?_)
    · have h := h.1 hc
      refine lv_iconst (v := (0 : Int32)) hx hb dX4_distinct_62 (by decide) ?_
      exact k_X4_distinct_63 E hK38 hH (lv_sub hl [0, 2] rfl) h
    · have h := h.2 hc
      refine lv_iconst (v := (1 : Int32)) hx hb dX4_distinct_58 (by decide) ?_
      refine lv_goto (tgt := 63) hx hb dX4_distinct_59 (by decide) ?_
      exact k_X4_distinct_63 E hK38 hH (lv_sub hl [0, 2] rfl) h
theorem k_X4_distinct_38 {post : Int32 → MS → Prop} (E : Cx p s m args meth c cX4_distinct 7 RX4 (some .int) D (tyW cI cS cO))  (n : Nat) : ∀ {C : MS} {x5 : Int32} {x6 : Int32} {H : Heap} {locs : List Loc} {ls : Array Slot} (hH : HX D (wM cI cS a C) A s.heap H locs) (hl : lv_has ls 7 [(0, .ref (a 0)), (5, .int x5), (6, .int x6)]) (h : w_X4_distinct_38 post n C x5 x6), W p l e (rmA 3 0 0) s m args below meth c H locs 0 0 (MQ below ((QI D (wM cI cS a) post) A) args s 0 0 A) (F0 m 38 ls []) := by
  induction n with
  | zero => intros; contradiction
  | succ n ih => intro C x5 x6 H locs ls hH hl h; exact k_X4_distinct_38b E  (fun C x5 x6 H locs ls hH hl h => ih hH hl h) hH hl h
set_option maxHeartbeats 4000000 in
set_option maxRecDepth 100000 in
theorem c_X4_distinct {l : Launch} {D : va_G} {cI cS cO : ClassId} {a : Nat → Nat} {C : MS} {x1 : Int32} {x2 : Int32} {x3 : Int32} {post : Int32 → MS → Prop} (h : w_X4_distinct post C x1 x2 x3) : MetX l D (tyW cI cS cO) yX4_distinct cX4_distinct 7 (some .int) 3 0 0 [.ref (a 0), .int x1, .int x2, .int x3] (wM cI cS a C) (QI D (wM cI cS a) post) := by
  refine x_ent (by decide) (Nat.le_of_ble_eq_true rfl) ?_
  intro p e s m below meth c ls E _ hH hl
  have hx := E.1
  have hb := E.2.1
  generalize va_A (wM cI cS a C) s.heap.size = A at hH ⊢
  have hl : lv_has ls 7 [(0, .ref (a 0)), (1, .int x1), (2, .int x2), (3, .int x3)] := hl
  unfold w_X4_distinct at h
  refine lv_aload_n hx hb dX4_distinct_0 rfl (lv_at hl 0 rfl) ?_
  refine lv_iload_n hx hb dX4_distinct_1 rfl (lv_at hl 1 rfl) ?_
  refine lv_iload_n hx hb dX4_distinct_2 rfl (lv_at hl 2 rfl) ?_
  refine lv_iload_n hx hb dX4_distinct_3 rfl (lv_at hl 3 rfl) ?_
  refine x_ci (x_runV (As := [.int x1, .int x2, .int x3]) (rest := []) E (c_X4_lookSpan h) yk_X4_lookSpan yi_X4_lookSpan km_X4_99 ⟨Nat.le_of_ble_eq_true rfl, Nat.le_of_ble_eq_true rfl⟩ ⟨Nat.le_of_ble_eq_true rfl, Nat.le_of_ble_eq_true rfl⟩ hH (va_recv E.2.2.2.2.2.1 hH.1 (ci := 4) (q0 := 0) rfl wM_g0) hl.1 rfl rfl (lv_room (Nat.le_of_ble_eq_true rfl)) dX4_distinct_4) hH (fun r2 C1 H locs h hH => ?_)
  refine lv_istore (lv' := [(4, .int r2), (0, .ref (a 0)), (1, .int x1), (2, .int x2), (3, .int x3)]) hx hb dX4_distinct_7 hl (by decide) rfl (fun ls hl => ?_)
  refine lv_iload hx hb dX4_distinct_9 (lv_at hl 0 rfl) ?_
  refine lv_if_ge (tgt := 21) hx hb dX4_distinct_11 (by decide) (fun hc => ?_) (fun hc => ?_)
  · have h := h.1 hc
    refine lv_aload_n hx hb dX4_distinct_21 rfl (lv_at hl 1 rfl) ?_
    refine lv_iload_n hx hb dX4_distinct_22 rfl (lv_at hl 2 rfl) ?_
    refine lv_iload_n hx hb dX4_distinct_23 rfl (lv_at hl 3 rfl) ?_
    refine lv_iload_n hx hb dX4_distinct_24 rfl (lv_at hl 4 rfl) ?_
    refine lv_aload_n hx hb dX4_distinct_25 rfl (lv_at hl 1 rfl) ?_
    refine x_get (ci := 4) (CN := RX4) (T := TX4) (N := 20) E in_X4 hH 0 wM_g0 rfl 18 (by decide) kf_X4_58 rfl dX4_distinct_26 ?_
    refine x_cv (x_runV (As := [.int x1, .int x2, .int x3, .ref (a 18)]) (rest := []) E (c_X4_count18 h) yk_X4_count yi_X4_count km_X4_134 ⟨Nat.le_of_ble_eq_true rfl, Nat.le_of_ble_eq_true rfl⟩ ⟨Nat.le_of_ble_eq_true rfl, Nat.le_of_ble_eq_true rfl⟩ hH (va_recv E.2.2.2.2.2.1 hH.1 (ci := 4) (q0 := 0) rfl wM_g0) hl.1 rfl rfl (lv_room (Nat.le_of_ble_eq_true rfl)) dX4_distinct_29) hH (fun C3 H locs h hH => ?_)
    refine lv_iconst (v := (0 : Int32)) hx hb dX4_distinct_32 (by decide) ?_
    refine lv_istore (lv' := [(5, .int (0 : Int32)), (4, .int r2), (0, .ref (a 0)), (1, .int x1), (2, .int x2), (3, .int x3)]) hx hb dX4_distinct_33 hl (by decide) rfl (fun ls hl => ?_)
    refine lv_iconst (v := (0 : Int32)) hx hb dX4_distinct_35 (by decide) ?_
    refine lv_istore (lv' := [(6, .int (0 : Int32)), (5, .int (0 : Int32)), (4, .int r2), (0, .ref (a 0)), (1, .int x1), (2, .int x2), (3, .int x3)]) hx hb dX4_distinct_36 hl (by decide) rfl (fun ls hl => ?_)
    obtain ⟨n, h⟩ := h
    exact k_X4_distinct_38 E  n hH (lv_sub hl [3, 1, 0] rfl) h
  · have h := h.2 hc
    refine lv_aload_n hx hb dX4_distinct_14 rfl (lv_at hl 1 rfl) ?_
    refine lv_iload hx hb dX4_distinct_15 (lv_at hl 0 rfl) ?_
    refine x_ci (x_runV (As := [.int r2]) (rest := []) E (c_X4_answer h) yk_X4_answer yi_X4_answer km_X4_86 ⟨Nat.le_of_ble_eq_true rfl, Nat.le_of_ble_eq_true rfl⟩ ⟨Nat.le_of_ble_eq_true rfl, Nat.le_of_ble_eq_true rfl⟩ hH (va_recv E.2.2.2.2.2.1 hH.1 (ci := 4) (q0 := 0) rfl wM_g0) hl.1 rfl rfl (lv_room (Nat.le_of_ble_eq_true rfl)) dX4_distinct_17) hH (fun r7 C6 H locs h hH => ?_)
    exact x_iret E hH h dX4_distinct_20
set_option maxHeartbeats 4000000 in
set_option maxRecDepth 100000 in
theorem k_X4_sum_61 {post : Int64 → MS → Prop} (E : Cx p s m args meth c cX4_sum 9 RX4 (some .long) D (tyW cI cS cO)) {K29 : MS → Int32 → Int32 → Int32 → Int64 → Int32 → Prop} (hK29 : ∀ (C : MS) (x1 : Int32) (x3 : Int32) (x4 : Int32) (y6 : Int64) (x8 : Int32) (H : Heap) (locs : List Loc) (ls : Array Slot), HX D (wM cI cS a C) A s.heap H locs → lv_has ls 9 [(0, .ref (a 0)), (1, .int x1), (3, .int x3), (4, .int x4), (6, .long y6), (8, .int x8)] → K29 C x1 x3 x4 y6 x8 → W p l e (rmA 3 0 0) s m args below meth c H locs 0 0 (MQ below ((QL D (wM cI cS a) post) A) args s 0 0 A) (F0 m 29 ls [])) {C : MS} {x1 : Int32} {x3 : Int32} {x4 : Int32} {x8 : Int32} {s0 : Int64} {s1 : Int64} {H : Heap} {locs : List Loc} {ls : Array Slot} (hH : HX D (wM cI cS a C) A s.heap H locs) (hl : lv_has ls 9 [(0, .ref (a 0)), (1, .int x1), (3, .int x3), (4, .int x4), (8, .int x8)]) (h : w_X4_sum_61 post K29 C x1 x3 x4 x8 s0 s1) : W p l e (rmA 3 0 0) s m args below meth c H locs 0 0 (MQ below ((QL D (wM cI cS a) post) A) args s 0 0 A) (F0 m 61 ls [.long s0, .long s1]) := by
  have hx := E.1
  have hb := E.2.1
  unfold w_X4_sum_61 at h
  refine lv_ladd hx hb dX4_sum_61 ?_
  refine lv_lstore (lv' := [(6, .long (s1 + s0)), (0, .ref (a 0)), (1, .int x1), (3, .int x3), (4, .int x4), (8, .int x8)]) hx hb dX4_sum_62 hl (by decide) rfl (fun ls hl => ?_)
  refine lv_iinc (v := (x8 + 1)) (lv' := [(8, .int (x8 + 1)), (6, .long (s1 + s0)), (0, .ref (a 0)), (1, .int x1), (3, .int x3), (4, .int x4)]) hx hb dX4_sum_64 hl (k := 5) rfl rfl (by decide) rfl (fun ls hl => ?_)
  refine lv_goto (tgt := 29) hx hb dX4_sum_67 (by decide) ?_
  exact hK29 _ _ _ _ _ _ _ _ _ hH (lv_sub hl [2, 3, 4, 5, 1, 0] rfl) h
set_option maxHeartbeats 4000000 in
set_option maxRecDepth 100000 in
theorem k_X4_sum_29b {post : Int64 → MS → Prop} (E : Cx p s m args meth c cX4_sum 9 RX4 (some .long) D (tyW cI cS cO))  {K29 : MS → Int32 → Int32 → Int32 → Int64 → Int32 → Prop} (hK29 : ∀ (C : MS) (x1 : Int32) (x3 : Int32) (x4 : Int32) (y6 : Int64) (x8 : Int32) (H : Heap) (locs : List Loc) (ls : Array Slot), HX D (wM cI cS a C) A s.heap H locs → lv_has ls 9 [(0, .ref (a 0)), (1, .int x1), (3, .int x3), (4, .int x4), (6, .long y6), (8, .int x8)] → K29 C x1 x3 x4 y6 x8 → W p l e (rmA 3 0 0) s m args below meth c H locs 0 0 (MQ below ((QL D (wM cI cS a) post) A) args s 0 0 A) (F0 m 29 ls [])) {C : MS} {x1 : Int32} {x3 : Int32} {x4 : Int32} {y6 : Int64} {x8 : Int32} {H : Heap} {locs : List Loc} {ls : Array Slot} (hH : HX D (wM cI cS a C) A s.heap H locs) (hl : lv_has ls 9 [(0, .ref (a 0)), (1, .int x1), (3, .int x3), (4, .int x4), (6, .long y6), (8, .int x8)]) (h : w_X4_sum_29b post K29 C x1 x3 x4 y6 x8) : W p l e (rmA 3 0 0) s m args below meth c H locs 0 0 (MQ below ((QL D (wM cI cS a) post) A) args s 0 0 A) (F0 m 29 ls []) := by
  have hx := E.1
  have hb := E.2.1
  unfold w_X4_sum_29b at h
  refine lv_iload hx hb dX4_sum_29 (lv_at hl 5 rfl) ?_
  refine lv_iload_n hx hb dX4_sum_31 rfl (lv_at hl 2 rfl) ?_
  refine lv_icmp_ge (tgt := 70) hx hb dX4_sum_32 (by decide) (fun hc => ?_) (fun hc => ?_)
  · have h := h.1 hc
    refine lv_lload hx hb dX4_sum_70 (lv_at hl 4 rfl) ?_
    exact x_lret E hH h dX4_sum_72
  · have h := h.2 hc
    refine lv_lload hx hb dX4_sum_35 (lv_at hl 4 rfl) ?_
    refine lv_aload_n hx hb dX4_sum_37 rfl (lv_at hl 0 rfl) ?_
    refine lv_iload_n hx hb dX4_sum_38 rfl (lv_at hl 1 rfl) ?_
    refine lv_iload hx hb dX4_sum_39 (lv_at hl 5 rfl) ?_
    refine x_ci (x_runV (As := [.int x1, .int x8]) (rest := [.long y6]) E (c_X4_valueAt h) yk_X4_valueAt yi_X4_valueAt km_X4_103 ⟨Nat.le_of_ble_eq_true rfl, Nat.le_of_ble_eq_true rfl⟩ ⟨Nat.le_of_ble_eq_true rfl, Nat.le_of_ble_eq_true rfl⟩ hH (va_recv E.2.2.2.2.2.1 hH.1 (ci := 4) (q0 := 0) rfl wM_g0) hl.1 rfl rfl (lv_room (Nat.le_of_ble_eq_true rfl)) dX4_sum_41) hH (fun r7 C6 H locs h hH => ?_)
    refine lv_iload hx hb dX4_sum_44 (lv_at hl 3 rfl) ?_
    refine lv_icmp_ge (tgt := 60) hx hb dX4_sum_46 (by decide) (fun hc => ?_) (fun hc => ?_)
    · have h := h.1 hc
      refine lv_lconst (v := (0 : Int64)) hx hb dX4_sum_60 (by decide) ?_
      exact k_X4_sum_61 E hK29 hH (lv_sub hl [0, 1, 2, 3, 5] rfl) h
    · have h := h.2 hc
      refine lv_aload_n hx hb dX4_sum_49 rfl (lv_at hl 0 rfl) ?_
      refine lv_iload_n hx hb dX4_sum_50 rfl (lv_at hl 1 rfl) ?_
      refine lv_iload hx hb dX4_sum_51 (lv_at hl 5 rfl) ?_
      refine x_ci (x_runV (As := [.int x1, .int x8]) (rest := [.long y6]) E (c_X4_weightAt h) yk_X4_weightAt yi_X4_weightAt km_X4_106 ⟨Nat.le_of_ble_eq_true rfl, Nat.le_of_ble_eq_true rfl⟩ ⟨Nat.le_of_ble_eq_true rfl, Nat.le_of_ble_eq_true rfl⟩ hH (va_recv E.2.2.2.2.2.1 hH.1 (ci := 4) (q0 := 0) rfl wM_g0) hl.1 rfl rfl (lv_room (Nat.le_of_ble_eq_true rfl)) dX4_sum_53) hH (fun r9 C8 H locs h hH => ?_)
      refine lv_i2l hx hb dX4_sum_56 rfl ?_
      refine lv_goto (tgt := 61) hx hb dX4_sum_57 (by decide) ?_
      exact k_X4_sum_61 E hK29 hH (lv_sub hl [0, 1, 2, 3, 5] rfl) h
theorem k_X4_sum_29 {post : Int64 → MS → Prop} (E : Cx p s m args meth c cX4_sum 9 RX4 (some .long) D (tyW cI cS cO))  (n : Nat) : ∀ {C : MS} {x1 : Int32} {x3 : Int32} {x4 : Int32} {y6 : Int64} {x8 : Int32} {H : Heap} {locs : List Loc} {ls : Array Slot} (hH : HX D (wM cI cS a C) A s.heap H locs) (hl : lv_has ls 9 [(0, .ref (a 0)), (1, .int x1), (3, .int x3), (4, .int x4), (6, .long y6), (8, .int x8)]) (h : w_X4_sum_29 post n C x1 x3 x4 y6 x8), W p l e (rmA 3 0 0) s m args below meth c H locs 0 0 (MQ below ((QL D (wM cI cS a) post) A) args s 0 0 A) (F0 m 29 ls []) := by
  induction n with
  | zero => intros; contradiction
  | succ n ih => intro C x1 x3 x4 y6 x8 H locs ls hH hl h; exact k_X4_sum_29b E  (fun C x1 x3 x4 y6 x8 H locs ls hH hl h => ih hH hl h) hH hl h
set_option maxHeartbeats 4000000 in
set_option maxRecDepth 100000 in
theorem c_X4_sum {l : Launch} {D : va_G} {cI cS cO : ClassId} {a : Nat → Nat} {C : MS} {x1 : Int32} {x2 : Int32} {x3 : Int32} {x4 : Int32} {post : Int64 → MS → Prop} (h : w_X4_sum post C x1 x2 x3 x4) : MetX l D (tyW cI cS cO) yX4_sum cX4_sum 9 (some .long) 3 0 0 [.ref (a 0), .int x1, .int x2, .int x3, .int x4] (wM cI cS a C) (QL D (wM cI cS a) post) := by
  refine x_ent (by decide) (Nat.le_of_ble_eq_true rfl) ?_
  intro p e s m below meth c ls E _ hH hl
  have hx := E.1
  have hb := E.2.1
  generalize va_A (wM cI cS a C) s.heap.size = A at hH ⊢
  have hl : lv_has ls 9 [(0, .ref (a 0)), (1, .int x1), (2, .int x2), (3, .int x3), (4, .int x4)] := hl
  unfold w_X4_sum at h
  refine lv_aload_n hx hb dX4_sum_0 rfl (lv_at hl 0 rfl) ?_
  refine lv_iload_n hx hb dX4_sum_1 rfl (lv_at hl 1 rfl) ?_
  refine lv_iload_n hx hb dX4_sum_2 rfl (lv_at hl 2 rfl) ?_
  refine lv_iload_n hx hb dX4_sum_3 rfl (lv_at hl 3 rfl) ?_
  refine x_ci (x_runV (As := [.int x1, .int x2, .int x3]) (rest := []) E (c_X4_lookSpan h) yk_X4_lookSpan yi_X4_lookSpan km_X4_99 ⟨Nat.le_of_ble_eq_true rfl, Nat.le_of_ble_eq_true rfl⟩ ⟨Nat.le_of_ble_eq_true rfl, Nat.le_of_ble_eq_true rfl⟩ hH (va_recv E.2.2.2.2.2.1 hH.1 (ci := 4) (q0 := 0) rfl wM_g0) hl.1 rfl rfl (lv_room (Nat.le_of_ble_eq_true rfl)) dX4_sum_4) hH (fun r2 C1 H locs h hH => ?_)
  refine lv_istore (lv' := [(5, .int r2), (0, .ref (a 0)), (1, .int x1), (2, .int x2), (3, .int x3), (4, .int x4)]) hx hb dX4_sum_7 hl (by decide) rfl (fun ls hl => ?_)
  refine lv_iload hx hb dX4_sum_9 (lv_at hl 0 rfl) ?_
  refine lv_if_ge (tgt := 23) hx hb dX4_sum_11 (by decide) (fun hc => ?_) (fun hc => ?_)
  · have h := h.1 hc
    refine lv_lconst (v := (0 : Int64)) hx hb dX4_sum_23 (by decide) ?_
    refine lv_lstore (lv' := [(6, .long (0 : Int64)), (5, .int r2), (0, .ref (a 0)), (1, .int x1), (2, .int x2), (3, .int x3), (4, .int x4)]) hx hb dX4_sum_24 hl (by decide) rfl (fun ls hl => ?_)
    refine lv_iload_n hx hb dX4_sum_26 rfl (lv_at hl 4 rfl) ?_
    refine lv_istore (lv' := [(8, .int x2), (6, .long (0 : Int64)), (5, .int r2), (0, .ref (a 0)), (1, .int x1), (2, .int x2), (3, .int x3), (4, .int x4)]) hx hb dX4_sum_27 hl (by decide) rfl (fun ls hl => ?_)
    obtain ⟨n, h⟩ := h
    exact k_X4_sum_29 E  n hH (lv_sub hl [3, 4, 6, 7, 1, 0] rfl) h
  · have h := h.2 hc
    refine lv_aload_n hx hb dX4_sum_14 rfl (lv_at hl 1 rfl) ?_
    refine lv_iload hx hb dX4_sum_15 (lv_at hl 0 rfl) ?_
    refine x_ci (x_runV (As := [.int r2]) (rest := []) E (c_X4_answer h) yk_X4_answer yi_X4_answer km_X4_86 ⟨Nat.le_of_ble_eq_true rfl, Nat.le_of_ble_eq_true rfl⟩ ⟨Nat.le_of_ble_eq_true rfl, Nat.le_of_ble_eq_true rfl⟩ hH (va_recv E.2.2.2.2.2.1 hH.1 (ci := 4) (q0 := 0) rfl wM_g0) hl.1 rfl rfl (lv_room (Nat.le_of_ble_eq_true rfl)) dX4_sum_17) hH (fun r5 C4 H locs h hH => ?_)
    refine lv_pop hx hb dX4_sum_20 rfl ?_
    refine lv_lconst (v := (0 : Int64)) hx hb dX4_sum_21 (by decide) ?_
    exact x_lret E hH h dX4_sum_22
set_option maxHeartbeats 4000000 in
set_option maxRecDepth 100000 in
theorem k_X4_differ_120b {post : Int32 → MS → Prop} (E : Cx p s m args meth c cX4_differ 8 RX4 (some .int) D (tyW cI cS cO))  {K120 : MS → Int32 → Prop} (hK120 : ∀ (C : MS) (x7 : Int32) (H : Heap) (locs : List Loc) (ls : Array Slot), HX D (wM cI cS a C) A s.heap H locs → lv_has ls 8 [(0, .ref (a 0)), (7, .int x7)] → K120 C x7 → W p l e (rmA 2 0 0) s m args below meth c H locs 0 0 (MQ below ((QI D (wM cI cS a) post) A) args s 0 0 A) (F0 m 120 ls [])) {C : MS} {x7 : Int32} {H : Heap} {locs : List Loc} {ls : Array Slot} (hH : HX D (wM cI cS a C) A s.heap H locs) (hl : lv_has ls 8 [(0, .ref (a 0)), (7, .int x7)]) (h : w_X4_differ_120b post K120 C x7) : W p l e (rmA 2 0 0) s m args below meth c H locs 0 0 (MQ below ((QI D (wM cI cS a) post) A) args s 0 0 A) (F0 m 120 ls []) := by
  have hx := E.1
  have hb := E.2.1
  unfold w_X4_differ_120b at h
  refine lv_iload hx hb dX4_differ_120 (lv_at hl 1 rfl) ?_
  refine lv_sipush (v := (1024 : Int32)) hx hb dX4_differ_122 (by decide) ?_
  refine lv_icmp_ge (tgt := 154) hx hb dX4_differ_125 (by decide) (fun hc => ?_) (fun hc => ?_)
  · have h := h.1 hc
    refine lv_aload_n hx hb dX4_differ_154 rfl (lv_at hl 0 rfl) ?_
    refine lv_bipush (v := (-6 : Int32)) hx hb dX4_differ_155 (by decide) ?_
    refine x_ci (x_runV (As := [.int (-6 : Int32)]) (rest := []) E (c_X4_answer h) yk_X4_answer yi_X4_answer km_X4_86 ⟨Nat.le_of_ble_eq_true rfl, Nat.le_of_ble_eq_true rfl⟩ ⟨Nat.le_of_ble_eq_true rfl, Nat.le_of_ble_eq_true rfl⟩ hH (va_recv E.2.2.2.2.2.1 hH.1 (ci := 4) (q0 := 0) rfl wM_g0) hl.1 rfl rfl (lv_room (Nat.le_of_ble_eq_true rfl)) dX4_differ_157) hH (fun r17 C16 H locs h hH => ?_)
    exact x_iret E hH h dX4_differ_160
  · have h := h.2 hc
    refine lv_aload_n hx hb dX4_differ_128 rfl (lv_at hl 0 rfl) ?_
    refine x_get (ci := 4) (CN := RX4) (T := TX4) (N := 20) E in_X4 hH 0 wM_g0 rfl 18 (by decide) kf_X4_58 rfl dX4_differ_129 ?_
    refine lv_iload hx hb dX4_differ_132 (lv_at hl 1 rfl) ?_
    obtain ⟨hi18, h⟩ := h
    refine x_iald E hH 15 0 wM_g18 rfl hi18 dX4_differ_134 ?_
    refine lv_aload_n hx hb dX4_differ_135 rfl (lv_at hl 0 rfl) ?_
    refine x_get (ci := 4) (CN := RX4) (T := TX4) (N := 20) E in_X4 hH 0 wM_g0 rfl 19 (by decide) kf_X4_61 rfl dX4_differ_136 ?_
    refine lv_iload hx hb dX4_differ_139 (lv_at hl 1 rfl) ?_
    refine x_iald E hH 16 0 wM_g19 rfl hi18 dX4_differ_141 ?_
    refine lv_icmp_eq (tgt := 148) hx hb dX4_differ_142 (by decide) (fun hc => ?_) (fun hc => ?_)
    · have h := h.1 hc
      refine lv_iinc (v := (x7 + 1)) (lv' := [(7, .int (x7 + 1)), (0, .ref (a 0))]) hx hb dX4_differ_148 hl (k := 1) rfl rfl (by decide) rfl (fun ls hl => ?_)
      refine lv_goto (tgt := 120) hx hb dX4_differ_151 (by decide) ?_
      exact hK120 _ _ _ _ _ hH (lv_sub hl [1, 0] rfl) h
    · have h := h.2 hc
      refine lv_iload hx hb dX4_differ_145 (lv_at hl 1 rfl) ?_
      exact x_iret E hH h dX4_differ_147
theorem k_X4_differ_120 {post : Int32 → MS → Prop} (E : Cx p s m args meth c cX4_differ 8 RX4 (some .int) D (tyW cI cS cO))  (n : Nat) : ∀ {C : MS} {x7 : Int32} {H : Heap} {locs : List Loc} {ls : Array Slot} (hH : HX D (wM cI cS a C) A s.heap H locs) (hl : lv_has ls 8 [(0, .ref (a 0)), (7, .int x7)]) (h : w_X4_differ_120 post n C x7), W p l e (rmA 2 0 0) s m args below meth c H locs 0 0 (MQ below ((QI D (wM cI cS a) post) A) args s 0 0 A) (F0 m 120 ls []) := by
  induction n with
  | zero => intros; contradiction
  | succ n ih => intro C x7 H locs ls hH hl h; exact k_X4_differ_120b E  (fun C x7 H locs ls hH hl h => ih hH hl h) hH hl h
set_option maxHeartbeats 4000000 in
set_option maxRecDepth 100000 in
theorem k_X4_differ_74 {post : Int32 → MS → Prop} (E : Cx p s m args meth c cX4_differ 8 RX4 (some .int) D (tyW cI cS cO))  {C : MS} {x1 : Int32} {x2 : Int32} {x3 : Int32} {x4 : Int32} {x5 : Int32} {s0 : Int32} {H : Heap} {locs : List Loc} {ls : Array Slot} (hH : HX D (wM cI cS a C) A s.heap H locs) (hl : lv_has ls 8 [(0, .ref (a 0)), (1, .int x1), (2, .int x2), (3, .int x3), (4, .int x4), (5, .int x5)]) (h : w_X4_differ_74 post C x1 x2 x3 x4 x5 s0) : W p l e (rmA 2 0 0) s m args below meth c H locs 0 0 (MQ below ((QI D (wM cI cS a) post) A) args s 0 0 A) (F0 m 74 ls [.int s0]) := by
  have hx := E.1
  have hb := E.2.1
  unfold w_X4_differ_74 at h
  refine lv_istore (lv' := [(6, .int s0), (0, .ref (a 0)), (1, .int x1), (2, .int x2), (3, .int x3), (4, .int x4), (5, .int x5)]) hx hb dX4_differ_74 hl (by decide) rfl (fun ls hl => ?_)
  refine lv_iload hx hb dX4_differ_76 (lv_at hl 0 rfl) ?_
  refine lv_if_ge (tgt := 88) hx hb dX4_differ_78 (by decide) (fun hc => ?_) (fun hc => ?_)
  · have h := h.1 hc
    refine lv_aload_n hx hb dX4_differ_88 rfl (lv_at hl 1 rfl) ?_
    refine lv_iload_n hx hb dX4_differ_89 rfl (lv_at hl 2 rfl) ?_
    refine lv_iload_n hx hb dX4_differ_90 rfl (lv_at hl 3 rfl) ?_
    refine lv_iload_n hx hb dX4_differ_91 rfl (lv_at hl 4 rfl) ?_
    refine lv_aload_n hx hb dX4_differ_92 rfl (lv_at hl 1 rfl) ?_
    refine x_get (ci := 4) (CN := RX4) (T := TX4) (N := 20) E in_X4 hH 0 wM_g0 rfl 18 (by decide) kf_X4_58 rfl dX4_differ_93 ?_
    refine x_cv (x_runV (As := [.int x1, .int x2, .int x3, .ref (a 18)]) (rest := []) E (c_X4_count18 h) yk_X4_count yi_X4_count km_X4_134 ⟨Nat.le_of_ble_eq_true rfl, Nat.le_of_ble_eq_true rfl⟩ ⟨Nat.le_of_ble_eq_true rfl, Nat.le_of_ble_eq_true rfl⟩ hH (va_recv E.2.2.2.2.2.1 hH.1 (ci := 4) (q0 := 0) rfl wM_g0) hl.1 rfl rfl (lv_room (Nat.le_of_ble_eq_true rfl)) dX4_differ_96) hH (fun C9 H locs h hH => ?_)
    refine lv_aload_n hx hb dX4_differ_99 rfl (lv_at hl 1 rfl) ?_
    refine lv_iload hx hb dX4_differ_100 (lv_at hl 5 rfl) ?_
    refine lv_iload hx hb dX4_differ_102 (lv_at hl 6 rfl) ?_
    refine lv_iload hx hb dX4_differ_104 (lv_at hl 6 rfl) ?_
    refine lv_iload_n hx hb dX4_differ_106 rfl (lv_at hl 4 rfl) ?_
    refine lv_iadd hx hb dX4_differ_107 ?_
    refine lv_iload_n hx hb dX4_differ_108 rfl (lv_at hl 3 rfl) ?_
    refine lv_isub hx hb dX4_differ_109 ?_
    refine lv_aload_n hx hb dX4_differ_110 rfl (lv_at hl 1 rfl) ?_
    refine x_get (ci := 4) (CN := RX4) (T := TX4) (N := 20) E in_X4 hH 0 wM_g0 rfl 19 (by decide) kf_X4_61 rfl dX4_differ_111 ?_
    refine x_cv (x_runV (As := [.int x4, .int x5, .int ((x5 + x3) - x2), .ref (a 19)]) (rest := []) E (c_X4_count19 h) yk_X4_count yi_X4_count km_X4_134 ⟨Nat.le_of_ble_eq_true rfl, Nat.le_of_ble_eq_true rfl⟩ ⟨Nat.le_of_ble_eq_true rfl, Nat.le_of_ble_eq_true rfl⟩ hH (va_recv E.2.2.2.2.2.1 hH.1 (ci := 4) (q0 := 0) rfl wM_g0) hl.1 rfl rfl (lv_room (Nat.le_of_ble_eq_true rfl)) dX4_differ_114) hH (fun C11 H locs h hH => ?_)
    refine lv_iconst (v := (0 : Int32)) hx hb dX4_differ_117 (by decide) ?_
    refine lv_istore (lv' := [(7, .int (0 : Int32)), (6, .int s0), (0, .ref (a 0)), (1, .int x1), (2, .int x2), (3, .int x3), (4, .int x4), (5, .int x5)]) hx hb dX4_differ_118 hl (by decide) rfl (fun ls hl => ?_)
    obtain ⟨n, h⟩ := h
    exact k_X4_differ_120 E  n hH (lv_sub hl [2, 0] rfl) h
  · have h := h.2 hc
    refine lv_aload_n hx hb dX4_differ_81 rfl (lv_at hl 1 rfl) ?_
    refine lv_iload hx hb dX4_differ_82 (lv_at hl 0 rfl) ?_
    refine x_ci (x_runV (As := [.int s0]) (rest := []) E (c_X4_answer h) yk_X4_answer yi_X4_answer km_X4_86 ⟨Nat.le_of_ble_eq_true rfl, Nat.le_of_ble_eq_true rfl⟩ ⟨Nat.le_of_ble_eq_true rfl, Nat.le_of_ble_eq_true rfl⟩ hH (va_recv E.2.2.2.2.2.1 hH.1 (ci := 4) (q0 := 0) rfl wM_g0) hl.1 rfl rfl (lv_room (Nat.le_of_ble_eq_true rfl)) dX4_differ_84) hH (fun r15 C14 H locs h hH => ?_)
    exact x_iret E hH h dX4_differ_87
set_option maxHeartbeats 4000000 in
set_option maxRecDepth 100000 in
theorem k_X4_differ_44 {post : Int32 → MS → Prop} (E : Cx p s m args meth c cX4_differ 8 RX4 (some .int) D (tyW cI cS cO))  {C : MS} {x1 : Int32} {x2 : Int32} {x3 : Int32} {x4 : Int32} {x5 : Int32} {s0 : Int32} {H : Heap} {locs : List Loc} {ls : Array Slot} (hH : HX D (wM cI cS a C) A s.heap H locs) (hl : lv_has ls 8 [(0, .ref (a 0)), (1, .int x1), (2, .int x2), (3, .int x3), (4, .int x4), (5, .int x5)]) (h : w_X4_differ_44 post C x1 x2 x3 x4 x5 s0) : W p l e (rmA 2 0 0) s m args below meth c H locs 0 0 (MQ below ((QI D (wM cI cS a) post) A) args s 0 0 A) (F0 m 44 ls [.int s0]) := by
  have hx := E.1
  have hb := E.2.1
  unfold w_X4_differ_44 at h
  refine lv_istore (lv' := [(6, .int s0), (0, .ref (a 0)), (1, .int x1), (2, .int x2), (3, .int x3), (4, .int x4), (5, .int x5)]) hx hb dX4_differ_44 hl (by decide) rfl (fun ls hl => ?_)
  refine lv_iload hx hb dX4_differ_46 (lv_at hl 0 rfl) ?_
  refine lv_if_ge (tgt := 56) hx hb dX4_differ_48 (by decide) (fun hc => ?_) (fun hc => ?_)
  · have h := h.1 hc
    refine lv_aload_n hx hb dX4_differ_56 rfl (lv_at hl 1 rfl) ?_
    refine lv_iload hx hb dX4_differ_57 (lv_at hl 5 rfl) ?_
    refine lv_iload hx hb dX4_differ_59 (lv_at hl 6 rfl) ?_
    refine lv_i2l hx hb dX4_differ_61 rfl ?_
    refine lv_iload hx hb dX4_differ_62 (lv_at hl 6 rfl) ?_
    refine lv_i2l hx hb dX4_differ_64 rfl ?_
    refine lv_iload_n hx hb dX4_differ_65 rfl (lv_at hl 4 rfl) ?_
    refine lv_i2l hx hb dX4_differ_66 rfl ?_
    refine lv_ladd hx hb dX4_differ_67 ?_
    refine lv_iload_n hx hb dX4_differ_68 rfl (lv_at hl 3 rfl) ?_
    refine lv_i2l hx hb dX4_differ_69 rfl ?_
    refine lv_lsub hx hb dX4_differ_70 ?_
    refine x_ci (x_runV (As := [.int x4, .long (Int32.toInt64 x5), .long (((Int32.toInt64 x5) + (Int32.toInt64 x3)) - (Int32.toInt64 x2))]) (rest := []) E (c_X4_span h) yk_X4_span yi_X4_span km_X4_75 ⟨Nat.le_of_ble_eq_true rfl, Nat.le_of_ble_eq_true rfl⟩ ⟨Nat.le_of_ble_eq_true rfl, Nat.le_of_ble_eq_true rfl⟩ hH (va_recv E.2.2.2.2.2.1 hH.1 (ci := 4) (q0 := 0) rfl wM_g0) hl.1 rfl rfl (lv_room (Nat.le_of_ble_eq_true rfl)) dX4_differ_71) hH (fun r8 C7 H locs h hH => ?_)
    exact k_X4_differ_74 E  hH (lv_sub hl [1, 2, 3, 4, 5, 6] rfl) h
  · have h := h.2 hc
    refine lv_iload hx hb dX4_differ_51 (lv_at hl 0 rfl) ?_
    refine lv_goto (tgt := 74) hx hb dX4_differ_53 (by decide) ?_
    exact k_X4_differ_74 E  hH (lv_sub hl [1, 2, 3, 4, 5, 6] rfl) h
set_option maxHeartbeats 4000000 in
set_option maxRecDepth 100000 in
theorem k_X4_differ_23 {post : Int32 → MS → Prop} (E : Cx p s m args meth c cX4_differ 8 RX4 (some .int) D (tyW cI cS cO))  {C : MS} {x1 : Int32} {x2 : Int32} {x3 : Int32} {x4 : Int32} {x5 : Int32} {s0 : Int32} {H : Heap} {locs : List Loc} {ls : Array Slot} (hH : HX D (wM cI cS a C) A s.heap H locs) (hl : lv_has ls 8 [(0, .ref (a 0)), (1, .int x1), (2, .int x2), (3, .int x3), (4, .int x4), (5, .int x5)]) (h : w_X4_differ_23 post C x1 x2 x3 x4 x5 s0) : W p l e (rmA 2 0 0) s m args below meth c H locs 0 0 (MQ below ((QI D (wM cI cS a) post) A) args s 0 0 A) (F0 m 23 ls [.int s0]) := by
  have hx := E.1
  have hb := E.2.1
  unfold w_X4_differ_23 at h
  refine lv_istore (lv' := [(6, .int s0), (0, .ref (a 0)), (1, .int x1), (2, .int x2), (3, .int x3), (4, .int x4), (5, .int x5)]) hx hb dX4_differ_23 hl (by decide) rfl (fun ls hl => ?_)
  refine lv_iload hx hb dX4_differ_25 (lv_at hl 0 rfl) ?_
  refine lv_if_ge (tgt := 35) hx hb dX4_differ_27 (by decide) (fun hc => ?_) (fun hc => ?_)
  · have h := h.1 hc
    refine lv_aload_n hx hb dX4_differ_35 rfl (lv_at hl 1 rfl) ?_
    refine lv_iload_n hx hb dX4_differ_36 rfl (lv_at hl 2 rfl) ?_
    refine lv_iload_n hx hb dX4_differ_37 rfl (lv_at hl 3 rfl) ?_
    refine lv_i2l hx hb dX4_differ_38 rfl ?_
    refine lv_iload_n hx hb dX4_differ_39 rfl (lv_at hl 4 rfl) ?_
    refine lv_i2l hx hb dX4_differ_40 rfl ?_
    refine x_ci (x_runV (As := [.int x1, .long (Int32.toInt64 x2), .long (Int32.toInt64 x3)]) (rest := []) E (c_X4_span h) yk_X4_span yi_X4_span km_X4_75 ⟨Nat.le_of_ble_eq_true rfl, Nat.le_of_ble_eq_true rfl⟩ ⟨Nat.le_of_ble_eq_true rfl, Nat.le_of_ble_eq_true rfl⟩ hH (va_recv E.2.2.2.2.2.1 hH.1 (ci := 4) (q0 := 0) rfl wM_g0) hl.1 rfl rfl (lv_room (Nat.le_of_ble_eq_true rfl)) dX4_differ_41) hH (fun r6 C5 H locs h hH => ?_)
    exact k_X4_differ_44 E  hH (lv_sub hl [1, 2, 3, 4, 5, 6] rfl) h
  · have h := h.2 hc
    refine lv_iload hx hb dX4_differ_30 (lv_at hl 0 rfl) ?_
    refine lv_goto (tgt := 44) hx hb dX4_differ_32 (by decide) ?_
    exact k_X4_differ_44 E  hH (lv_sub hl [1, 2, 3, 4, 5, 6] rfl) h
set_option maxHeartbeats 4000000 in
set_option maxRecDepth 100000 in
theorem c_X4_differ {l : Launch} {D : va_G} {cI cS cO : ClassId} {a : Nat → Nat} {C : MS} {x1 : Int32} {x2 : Int32} {x3 : Int32} {x4 : Int32} {x5 : Int32} {post : Int32 → MS → Prop} (h : w_X4_differ post C x1 x2 x3 x4 x5) : MetX l D (tyW cI cS cO) yX4_differ cX4_differ 8 (some .int) 2 0 0 [.ref (a 0), .int x1, .int x2, .int x3, .int x4, .int x5] (wM cI cS a C) (QI D (wM cI cS a) post) := by
  refine x_ent (by decide) (Nat.le_of_ble_eq_true rfl) ?_
  intro p e s m below meth c ls E _ hH hl
  have hx := E.1
  have hb := E.2.1
  generalize va_A (wM cI cS a C) s.heap.size = A at hH ⊢
  have hl : lv_has ls 8 [(0, .ref (a 0)), (1, .int x1), (2, .int x2), (3, .int x3), (4, .int x4), (5, .int x5)] := hl
  unfold w_X4_differ at h
  refine lv_aload_n hx hb dX4_differ_0 rfl (lv_at hl 0 rfl) ?_
  refine lv_iload_n hx hb dX4_differ_1 rfl (lv_at hl 1 rfl) ?_
  refine x_ci (x_runV (As := [.int x1]) (rest := []) E (c_X4_look h) yk_X4_look yi_X4_look km_X4_72 ⟨Nat.le_of_ble_eq_true rfl, Nat.le_of_ble_eq_true rfl⟩ ⟨Nat.le_of_ble_eq_true rfl, Nat.le_of_ble_eq_true rfl⟩ hH (va_recv E.2.2.2.2.2.1 hH.1 (ci := 4) (q0 := 0) rfl wM_g0) hl.1 rfl rfl (lv_room (Nat.le_of_ble_eq_true rfl)) dX4_differ_2) hH (fun r2 C1 H locs h hH => ?_)
  refine lv_istore (lv' := [(6, .int r2), (0, .ref (a 0)), (1, .int x1), (2, .int x2), (3, .int x3), (4, .int x4), (5, .int x5)]) hx hb dX4_differ_5 hl (by decide) rfl (fun ls hl => ?_)
  refine lv_iload hx hb dX4_differ_7 (lv_at hl 0 rfl) ?_
  refine lv_if_ge (tgt := 17) hx hb dX4_differ_9 (by decide) (fun hc => ?_) (fun hc => ?_)
  · have h := h.1 hc
    refine lv_aload_n hx hb dX4_differ_17 rfl (lv_at hl 1 rfl) ?_
    refine lv_iload hx hb dX4_differ_18 (lv_at hl 5 rfl) ?_
    refine x_ci (x_runV (As := [.int x4]) (rest := []) E (c_X4_look h) yk_X4_look yi_X4_look km_X4_72 ⟨Nat.le_of_ble_eq_true rfl, Nat.le_of_ble_eq_true rfl⟩ ⟨Nat.le_of_ble_eq_true rfl, Nat.le_of_ble_eq_true rfl⟩ hH (va_recv E.2.2.2.2.2.1 hH.1 (ci := 4) (q0 := 0) rfl wM_g0) hl.1 rfl rfl (lv_room (Nat.le_of_ble_eq_true rfl)) dX4_differ_20) hH (fun r4 C3 H locs h hH => ?_)
    exact k_X4_differ_23 E  hH (lv_sub hl [1, 2, 3, 4, 5, 6] rfl) h
  · have h := h.2 hc
    refine lv_iload hx hb dX4_differ_12 (lv_at hl 0 rfl) ?_
    refine lv_goto (tgt := 23) hx hb dX4_differ_14 (by decide) ?_
    exact k_X4_differ_23 E  hH (lv_sub hl [1, 2, 3, 4, 5, 6] rfl) h
set_option maxHeartbeats 4000000 in
set_option maxRecDepth 100000 in
theorem k_X4_first_48b {post : Int32 → MS → Prop} (E : Cx p s m args meth c cX4_first 6 RX4 (some .int) D (tyW cI cS cO))  {K48 : MS → Int32 → Int32 → Int32 → Int32 → Prop} (hK48 : ∀ (C : MS) (x1 : Int32) (x2 : Int32) (x4 : Int32) (x5 : Int32) (H : Heap) (locs : List Loc) (ls : Array Slot), HX D (wM cI cS a C) A s.heap H locs → lv_has ls 6 [(0, .ref (a 0)), (1, .int x1), (2, .int x2), (4, .int x4), (5, .int x5)] → K48 C x1 x2 x4 x5 → W p l e (rmA 2 0 0) s m args below meth c H locs 0 0 (MQ below ((QI D (wM cI cS a) post) A) args s 0 0 A) (F0 m 48 ls [])) {C : MS} {x1 : Int32} {x2 : Int32} {x4 : Int32} {x5 : Int32} {H : Heap} {locs : List Loc} {ls : Array Slot} (hH : HX D (wM cI cS a C) A s.heap H locs) (hl : lv_has ls 6 [(0, .ref (a 0)), (1, .int x1), (2, .int x2), (4, .int x4), (5, .int x5)]) (h : w_X4_first_48b post K48 C x1 x2 x4 x5) : W p l e (rmA 2 0 0) s m args below meth c H locs 0 0 (MQ below ((QI D (wM cI cS a) post) A) args s 0 0 A) (F0 m 48 ls []) := by
  have hx := E.1
  have hb := E.2.1
  unfold w_X4_first_48b at h
  refine lv_iload hx hb dX4_first_48 (lv_at hl 4 rfl) ?_
  refine lv_iload hx hb dX4_first_50 (lv_at hl 3 rfl) ?_
  refine lv_icmp_ge (tgt := 98) hx hb dX4_first_52 (by decide) (fun hc => ?_) (fun hc => ?_)
  · have h := h.1 hc
    refine lv_aload_n hx hb dX4_first_98 rfl (lv_at hl 0 rfl) ?_
    refine lv_iload_n hx hb dX4_first_99 rfl (lv_at hl 1 rfl) ?_
    refine x_ci (x_runV (As := [.int x1]) (rest := []) E (c_X4_size h) yk_X4_size yi_X4_size km_X4_68 ⟨Nat.le_of_ble_eq_true rfl, Nat.le_of_ble_eq_true rfl⟩ ⟨Nat.le_of_ble_eq_true rfl, Nat.le_of_ble_eq_true rfl⟩ hH (va_recv E.2.2.2.2.2.1 hH.1 (ci := 4) (q0 := 0) rfl wM_g0) hl.1 rfl rfl (lv_room (Nat.le_of_ble_eq_true rfl)) dX4_first_100) hH (fun r13 C12 H locs h hH => ?_)
    refine lv_aload_n hx hb dX4_first_103 rfl (lv_at hl 0 rfl) ?_
    refine lv_iload_n hx hb dX4_first_104 rfl (lv_at hl 2 rfl) ?_
    refine x_ci (x_runV (As := [.int x2]) (rest := [.int r13]) E (c_X4_size h) yk_X4_size yi_X4_size km_X4_68 ⟨Nat.le_of_ble_eq_true rfl, Nat.le_of_ble_eq_true rfl⟩ ⟨Nat.le_of_ble_eq_true rfl, Nat.le_of_ble_eq_true rfl⟩ hH (va_recv E.2.2.2.2.2.1 hH.1 (ci := 4) (q0 := 0) rfl wM_g0) hl.1 rfl rfl (lv_room (Nat.le_of_ble_eq_true rfl)) dX4_first_105) hH (fun r15 C14 H locs h hH => ?_)
    refine lv_icmp_ne (tgt := 120) hx hb dX4_first_108 (by decide) (fun hc => ?_) (fun hc => ?_)
    · have h := h.1 hc
      refine lv_iload hx hb dX4_first_120 (lv_at hl 3 rfl) ?_
      exact x_iret E hH h dX4_first_122
    · have h := h.2 hc
      refine lv_aload_n hx hb dX4_first_111 rfl (lv_at hl 0 rfl) ?_
      refine lv_bipush (v := (-6 : Int32)) hx hb dX4_first_112 (by decide) ?_
      refine x_ci (x_runV (As := [.int (-6 : Int32)]) (rest := []) E (c_X4_answer h) yk_X4_answer yi_X4_answer km_X4_86 ⟨Nat.le_of_ble_eq_true rfl, Nat.le_of_ble_eq_true rfl⟩ ⟨Nat.le_of_ble_eq_true rfl, Nat.le_of_ble_eq_true rfl⟩ hH (va_recv E.2.2.2.2.2.1 hH.1 (ci := 4) (q0 := 0) rfl wM_g0) hl.1 rfl rfl (lv_room (Nat.le_of_ble_eq_true rfl)) dX4_first_114) hH (fun r17 C16 H locs h hH => ?_)
      refine lv_goto (tgt := 122) hx hb dX4_first_117 (by decide) ?_
      exact x_iret E hH h dX4_first_122
  · have h := h.2 hc
    refine lv_aload_n hx hb dX4_first_55 rfl (lv_at hl 0 rfl) ?_
    refine lv_iload_n hx hb dX4_first_56 rfl (lv_at hl 1 rfl) ?_
    refine lv_iload hx hb dX4_first_57 (lv_at hl 4 rfl) ?_
    refine x_ci (x_runV (As := [.int x1, .int x5]) (rest := []) E (c_X4_valueAt h) yk_X4_valueAt yi_X4_valueAt km_X4_103 ⟨Nat.le_of_ble_eq_true rfl, Nat.le_of_ble_eq_true rfl⟩ ⟨Nat.le_of_ble_eq_true rfl, Nat.le_of_ble_eq_true rfl⟩ hH (va_recv E.2.2.2.2.2.1 hH.1 (ci := 4) (q0 := 0) rfl wM_g0) hl.1 rfl rfl (lv_room (Nat.le_of_ble_eq_true rfl)) dX4_first_59) hH (fun r19 C18 H locs h hH => ?_)
    refine lv_aload_n hx hb dX4_first_62 rfl (lv_at hl 0 rfl) ?_
    refine lv_iload_n hx hb dX4_first_63 rfl (lv_at hl 2 rfl) ?_
    refine lv_iload hx hb dX4_first_64 (lv_at hl 4 rfl) ?_
    refine x_ci (x_runV (As := [.int x2, .int x5]) (rest := [.int r19]) E (c_X4_valueAt h) yk_X4_valueAt yi_X4_valueAt km_X4_103 ⟨Nat.le_of_ble_eq_true rfl, Nat.le_of_ble_eq_true rfl⟩ ⟨Nat.le_of_ble_eq_true rfl, Nat.le_of_ble_eq_true rfl⟩ hH (va_recv E.2.2.2.2.2.1 hH.1 (ci := 4) (q0 := 0) rfl wM_g0) hl.1 rfl rfl (lv_room (Nat.le_of_ble_eq_true rfl)) dX4_first_66) hH (fun r21 C20 H locs h hH => ?_)
    refine lv_icmp_ne (tgt := 89) hx hb dX4_first_69 (by decide) (fun hc => ?_) (fun hc => ?_)
    · have h := h.1 hc
      refine lv_iload hx hb dX4_first_89 (lv_at hl 4 rfl) ?_
      exact x_iret E hH h dX4_first_91
    · have h := h.2 hc
      refine lv_aload_n hx hb dX4_first_72 rfl (lv_at hl 0 rfl) ?_
      refine lv_iload_n hx hb dX4_first_73 rfl (lv_at hl 1 rfl) ?_
      refine lv_iload hx hb dX4_first_74 (lv_at hl 4 rfl) ?_
      refine x_ci (x_runV (As := [.int x1, .int x5]) (rest := []) E (c_X4_weightAt h) yk_X4_weightAt yi_X4_weightAt km_X4_106 ⟨Nat.le_of_ble_eq_true rfl, Nat.le_of_ble_eq_true rfl⟩ ⟨Nat.le_of_ble_eq_true rfl, Nat.le_of_ble_eq_true rfl⟩ hH (va_recv E.2.2.2.2.2.1 hH.1 (ci := 4) (q0 := 0) rfl wM_g0) hl.1 rfl rfl (lv_room (Nat.le_of_ble_eq_true rfl)) dX4_first_76) hH (fun r23 C22 H locs h hH => ?_)
      refine lv_aload_n hx hb dX4_first_79 rfl (lv_at hl 0 rfl) ?_
      refine lv_iload_n hx hb dX4_first_80 rfl (lv_at hl 2 rfl) ?_
      refine lv_iload hx hb dX4_first_81 (lv_at hl 4 rfl) ?_
      refine x_ci (x_runV (As := [.int x2, .int x5]) (rest := [.int r23]) E (c_X4_weightAt h) yk_X4_weightAt yi_X4_weightAt km_X4_106 ⟨Nat.le_of_ble_eq_true rfl, Nat.le_of_ble_eq_true rfl⟩ ⟨Nat.le_of_ble_eq_true rfl, Nat.le_of_ble_eq_true rfl⟩ hH (va_recv E.2.2.2.2.2.1 hH.1 (ci := 4) (q0 := 0) rfl wM_g0) hl.1 rfl rfl (lv_room (Nat.le_of_ble_eq_true rfl)) dX4_first_83) hH (fun r25 C24 H locs h hH => ?_)
      refine lv_icmp_eq (tgt := 92) hx hb dX4_first_86 (by decide) (fun hc => ?_) (fun hc => ?_)
      · have h := h.1 hc
        refine lv_iinc (v := (x5 + 1)) (lv' := [(5, .int (x5 + 1)), (0, .ref (a 0)), (1, .int x1), (2, .int x2), (4, .int x4)]) hx hb dX4_first_92 hl (k := 4) rfl rfl (by decide) rfl (fun ls hl => ?_)
        refine lv_goto (tgt := 48) hx hb dX4_first_95 (by decide) ?_
        exact hK48 _ _ _ _ _ _ _ _ hH (lv_sub hl [1, 2, 3, 4, 0] rfl) h
      · have h := h.2 hc
        refine lv_iload hx hb dX4_first_89 (lv_at hl 4 rfl) ?_
        exact x_iret E hH h dX4_first_91
theorem k_X4_first_48 {post : Int32 → MS → Prop} (E : Cx p s m args meth c cX4_first 6 RX4 (some .int) D (tyW cI cS cO))  (n : Nat) : ∀ {C : MS} {x1 : Int32} {x2 : Int32} {x4 : Int32} {x5 : Int32} {H : Heap} {locs : List Loc} {ls : Array Slot} (hH : HX D (wM cI cS a C) A s.heap H locs) (hl : lv_has ls 6 [(0, .ref (a 0)), (1, .int x1), (2, .int x2), (4, .int x4), (5, .int x5)]) (h : w_X4_first_48 post n C x1 x2 x4 x5), W p l e (rmA 2 0 0) s m args below meth c H locs 0 0 (MQ below ((QI D (wM cI cS a) post) A) args s 0 0 A) (F0 m 48 ls []) := by
  induction n with
  | zero => intros; contradiction
  | succ n ih => intro C x1 x2 x4 x5 H locs ls hH hl h; exact k_X4_first_48b E  (fun C x1 x2 x4 x5 H locs ls hH hl h => ih hH hl h) hH hl h
set_option maxHeartbeats 4000000 in
set_option maxRecDepth 100000 in
theorem k_X4_first_19 {post : Int32 → MS → Prop} (E : Cx p s m args meth c cX4_first 6 RX4 (some .int) D (tyW cI cS cO))  {C : MS} {x1 : Int32} {x2 : Int32} {s0 : Int32} {H : Heap} {locs : List Loc} {ls : Array Slot} (hH : HX D (wM cI cS a C) A s.heap H locs) (hl : lv_has ls 6 [(0, .ref (a 0)), (1, .int x1), (2, .int x2)]) (h : w_X4_first_19 post C x1 x2 s0) : W p l e (rmA 2 0 0) s m args below meth c H locs 0 0 (MQ below ((QI D (wM cI cS a) post) A) args s 0 0 A) (F0 m 19 ls [.int s0]) := by
  have hx := E.1
  have hb := E.2.1
  unfold w_X4_first_19 at h
  refine lv_istore_n (lv' := [(3, .int s0), (0, .ref (a 0)), (1, .int x1), (2, .int x2)]) hx hb dX4_first_19 rfl hl (by decide) rfl (fun ls hl => ?_)
  refine lv_iload_n hx hb dX4_first_20 rfl (lv_at hl 0 rfl) ?_
  refine lv_if_ge (tgt := 30) hx hb dX4_first_21 (by decide) (fun hc => ?_) (fun hc => ?_)
  · have h := h.1 hc
    refine lv_aload_n hx hb dX4_first_30 rfl (lv_at hl 1 rfl) ?_
    refine lv_iload_n hx hb dX4_first_31 rfl (lv_at hl 2 rfl) ?_
    refine x_ci (x_runV (As := [.int x1]) (rest := []) E (c_X4_size h) yk_X4_size yi_X4_size km_X4_68 ⟨Nat.le_of_ble_eq_true rfl, Nat.le_of_ble_eq_true rfl⟩ ⟨Nat.le_of_ble_eq_true rfl, Nat.le_of_ble_eq_true rfl⟩ hH (va_recv E.2.2.2.2.2.1 hH.1 (ci := 4) (q0 := 0) rfl wM_g0) hl.1 rfl rfl (lv_room (Nat.le_of_ble_eq_true rfl)) dX4_first_32) hH (fun r6 C5 H locs h hH => ?_)
    refine lv_aload_n hx hb dX4_first_35 rfl (lv_at hl 1 rfl) ?_
    refine lv_iload_n hx hb dX4_first_36 rfl (lv_at hl 3 rfl) ?_
    refine x_ci (x_runV (As := [.int x2]) (rest := [.int r6]) E (c_X4_size h) yk_X4_size yi_X4_size km_X4_68 ⟨Nat.le_of_ble_eq_true rfl, Nat.le_of_ble_eq_true rfl⟩ ⟨Nat.le_of_ble_eq_true rfl, Nat.le_of_ble_eq_true rfl⟩ hH (va_recv E.2.2.2.2.2.1 hH.1 (ci := 4) (q0 := 0) rfl wM_g0) hl.1 rfl rfl (lv_room (Nat.le_of_ble_eq_true rfl)) dX4_first_37) hH (fun r8 C7 H locs h hH => ?_)
    refine va_mmin hx hb (E.2.2.1.trans hl.1.symm) E.2.2.2.1 (E.2.2.2.2.1 _ km_X4_153) (E.2.2.2.2.1 _ km_min_s) (E.2.2.2.2.1 _ km_math) (E.2.2.2.2.1 _ km_min_c) (by decide) (by decide) (by decide) (by decide) dX4_first_40 ?_
    refine lv_istore (lv' := [(4, .int (if r8 < r6 then r8 else r6)), (3, .int s0), (0, .ref (a 0)), (1, .int x1), (2, .int x2)]) hx hb dX4_first_43 hl (by decide) rfl (fun ls hl => ?_)
    refine lv_iconst (v := (0 : Int32)) hx hb dX4_first_45 (by decide) ?_
    refine lv_istore (lv' := [(5, .int (0 : Int32)), (4, .int (if r8 < r6 then r8 else r6)), (3, .int s0), (0, .ref (a 0)), (1, .int x1), (2, .int x2)]) hx hb dX4_first_46 hl (by decide) rfl (fun ls hl => ?_)
    obtain ⟨n, h⟩ := h
    exact k_X4_first_48 E  n hH (lv_sub hl [3, 4, 5, 1, 0] rfl) h
  · have h := h.2 hc
    refine lv_aload_n hx hb dX4_first_24 rfl (lv_at hl 1 rfl) ?_
    refine lv_iload_n hx hb dX4_first_25 rfl (lv_at hl 0 rfl) ?_
    refine x_ci (x_runV (As := [.int s0]) (rest := []) E (c_X4_answer h) yk_X4_answer yi_X4_answer km_X4_86 ⟨Nat.le_of_ble_eq_true rfl, Nat.le_of_ble_eq_true rfl⟩ ⟨Nat.le_of_ble_eq_true rfl, Nat.le_of_ble_eq_true rfl⟩ hH (va_recv E.2.2.2.2.2.1 hH.1 (ci := 4) (q0 := 0) rfl wM_g0) hl.1 rfl rfl (lv_room (Nat.le_of_ble_eq_true rfl)) dX4_first_26) hH (fun r11 C10 H locs h hH => ?_)
    exact x_iret E hH h dX4_first_29
set_option maxHeartbeats 4000000 in
set_option maxRecDepth 100000 in
theorem c_X4_first {l : Launch} {D : va_G} {cI cS cO : ClassId} {a : Nat → Nat} {C : MS} {x1 : Int32} {x2 : Int32} {post : Int32 → MS → Prop} (h : w_X4_first post C x1 x2) : MetX l D (tyW cI cS cO) yX4_first cX4_first 6 (some .int) 2 0 0 [.ref (a 0), .int x1, .int x2] (wM cI cS a C) (QI D (wM cI cS a) post) := by
  refine x_ent (by decide) (Nat.le_of_ble_eq_true rfl) ?_
  intro p e s m below meth c ls E _ hH hl
  have hx := E.1
  have hb := E.2.1
  generalize va_A (wM cI cS a C) s.heap.size = A at hH ⊢
  have hl : lv_has ls 6 [(0, .ref (a 0)), (1, .int x1), (2, .int x2)] := hl
  unfold w_X4_first at h
  refine lv_aload_n hx hb dX4_first_0 rfl (lv_at hl 0 rfl) ?_
  refine lv_iload_n hx hb dX4_first_1 rfl (lv_at hl 1 rfl) ?_
  refine x_ci (x_runV (As := [.int x1]) (rest := []) E (c_X4_look h) yk_X4_look yi_X4_look km_X4_72 ⟨Nat.le_of_ble_eq_true rfl, Nat.le_of_ble_eq_true rfl⟩ ⟨Nat.le_of_ble_eq_true rfl, Nat.le_of_ble_eq_true rfl⟩ hH (va_recv E.2.2.2.2.2.1 hH.1 (ci := 4) (q0 := 0) rfl wM_g0) hl.1 rfl rfl (lv_room (Nat.le_of_ble_eq_true rfl)) dX4_first_2) hH (fun r2 C1 H locs h hH => ?_)
  refine lv_istore_n (lv' := [(3, .int r2), (0, .ref (a 0)), (1, .int x1), (2, .int x2)]) hx hb dX4_first_5 rfl hl (by decide) rfl (fun ls hl => ?_)
  refine lv_iload_n hx hb dX4_first_6 rfl (lv_at hl 0 rfl) ?_
  refine lv_if_ge (tgt := 14) hx hb dX4_first_7 (by decide) (fun hc => ?_) (fun hc => ?_)
  · have h := h.1 hc
    refine lv_aload_n hx hb dX4_first_14 rfl (lv_at hl 1 rfl) ?_
    refine lv_iload_n hx hb dX4_first_15 rfl (lv_at hl 3 rfl) ?_
    refine x_ci (x_runV (As := [.int x2]) (rest := []) E (c_X4_look h) yk_X4_look yi_X4_look km_X4_72 ⟨Nat.le_of_ble_eq_true rfl, Nat.le_of_ble_eq_true rfl⟩ ⟨Nat.le_of_ble_eq_true rfl, Nat.le_of_ble_eq_true rfl⟩ hH (va_recv E.2.2.2.2.2.1 hH.1 (ci := 4) (q0 := 0) rfl wM_g0) hl.1 rfl rfl (lv_room (Nat.le_of_ble_eq_true rfl)) dX4_first_16) hH (fun r4 C3 H locs h hH => ?_)
    exact k_X4_first_19 E  hH (lv_sub hl [1, 2, 3] rfl) h
  · have h := h.2 hc
    refine lv_iload_n hx hb dX4_first_10 rfl (lv_at hl 0 rfl) ?_
    refine lv_goto (tgt := 19) hx hb dX4_first_11 (by decide) ?_
    exact k_X4_first_19 E  hH (lv_sub hl [1, 2, 3] rfl) h
set_option maxHeartbeats 4000000 in
set_option maxRecDepth 100000 in
theorem k_X4_step_21 {post : Int32 → MS → Prop} (E : Cx p s m args meth c cX4_step 2 RX4 (some .int) D (tyW cI cS cO))  {C : MS}  {H : Heap} {locs : List Loc} {ls : Array Slot} (hH : HX D (wM cI cS a C) A s.heap H locs) (hl : lv_has ls 2 [(0, .ref (a 0))]) (h : w_X4_step_21 post C ) : W p l e (rmA 1 0 0) s m args below meth c H locs 0 0 (MQ below ((QI D (wM cI cS a) post) A) args s 0 0 A) (F0 m 21 ls []) := by
  have hx := E.1
  have hb := E.2.1
  unfold w_X4_step_21 at h
  refine lv_aload_n hx hb dX4_step_21 rfl (lv_at hl 0 rfl) ?_
  refine lv_bipush (v := (-6 : Int32)) hx hb dX4_step_22 (by decide) ?_
  refine x_ci (x_runV (As := [.int (-6 : Int32)]) (rest := []) E (c_X4_answer h) yk_X4_answer yi_X4_answer km_X4_86 ⟨Nat.le_of_ble_eq_true rfl, Nat.le_of_ble_eq_true rfl⟩ ⟨Nat.le_of_ble_eq_true rfl, Nat.le_of_ble_eq_true rfl⟩ hH (va_recv E.2.2.2.2.2.1 hH.1 (ci := 4) (q0 := 0) rfl wM_g0) hl.1 rfl rfl (lv_room (Nat.le_of_ble_eq_true rfl)) dX4_step_24) hH (fun r3 C2 H locs h hH => ?_)
  exact x_iret E hH h dX4_step_27
set_option maxHeartbeats 4000000 in
set_option maxRecDepth 100000 in
theorem c_X4_step {l : Launch} {D : va_G} {cI cS cO : ClassId} {a : Nat → Nat} {C : MS} {x1 : Int32} {post : Int32 → MS → Prop} (h : w_X4_step post C x1) : MetX l D (tyW cI cS cO) yX4_step cX4_step 2 (some .int) 1 0 0 [.ref (a 0), .int x1] (wM cI cS a C) (QI D (wM cI cS a) post) := by
  refine x_ent (by decide) (Nat.le_of_ble_eq_true rfl) ?_
  intro p e s m below meth c ls E _ hH hl
  have hx := E.1
  have hb := E.2.1
  generalize va_A (wM cI cS a C) s.heap.size = A at hH ⊢
  have hl : lv_has ls 2 [(0, .ref (a 0)), (1, .int x1)] := hl
  unfold w_X4_step at h
  refine lv_iload_n hx hb dX4_step_0 rfl (lv_at hl 1 rfl) ?_
  refine lv_if_lt (tgt := 21) hx hb dX4_step_1 (by decide) (fun hc => ?_) (fun hc => ?_)
  · have h := h.1 hc
    exact k_X4_step_21 E  hH (lv_sub hl [0] rfl) h
  · have h := h.2 hc
    refine lv_iload_n hx hb dX4_step_4 rfl (lv_at hl 1 rfl) ?_
    refine lv_aload_n hx hb dX4_step_5 rfl (lv_at hl 0 rfl) ?_
    refine x_get (ci := 4) (CN := RX4) (T := TX4) (N := 20) E in_X4 hH 0 wM_g0 rfl 14 (by decide) kf_X4_138 rfl dX4_step_6 ?_
    refine lv_icmp_ge (tgt := 21) hx hb dX4_step_9 (by decide) (fun hc => ?_) (fun hc => ?_)
    · have h := h.1 hc
      exact k_X4_step_21 E  hH (lv_sub hl [0] rfl) h
    · have h := h.2 hc
      refine lv_aload_n hx hb dX4_step_12 rfl (lv_at hl 0 rfl) ?_
      refine x_get (ci := 4) (CN := RX4) (T := TX4) (N := 20) E in_X4 hH 0 wM_g0 rfl 13 (by decide) kf_X4_46 rfl dX4_step_13 ?_
      refine lv_iload_n hx hb dX4_step_16 rfl (lv_at hl 1 rfl) ?_
      obtain ⟨hi1, h⟩ := h
      refine x_iald E hH 11 0 wM_g13 rfl hi1 dX4_step_17 ?_
      refine lv_goto (tgt := 27) hx hb dX4_step_18 (by decide) ?_
      exact x_iret E hH h dX4_step_27
set_option maxHeartbeats 4000000 in
set_option maxRecDepth 100000 in
theorem k_X4_found_20 {post : Int32 → MS → Prop} (E : Cx p s m args meth c cX4_found 2 RX4 (some .int) D (tyW cI cS cO))  {C : MS}  {H : Heap} {locs : List Loc} {ls : Array Slot} (hH : HX D (wM cI cS a C) A s.heap H locs) (hl : lv_has ls 2 [(0, .ref (a 0))]) (h : w_X4_found_20 post C ) : W p l e (rmA 1 0 0) s m args below meth c H locs 0 0 (MQ below ((QI D (wM cI cS a) post) A) args s 0 0 A) (F0 m 20 ls []) := by
  have hx := E.1
  have hb := E.2.1
  unfold w_X4_found_20 at h
  refine lv_aload_n hx hb dX4_found_20 rfl (lv_at hl 0 rfl) ?_
  refine lv_iconst (v := (-1 : Int32)) hx hb dX4_found_21 (by decide) ?_
  refine x_ci (x_runV (As := [.int (-1 : Int32)]) (rest := []) E (c_X4_answer h) yk_X4_answer yi_X4_answer km_X4_86 ⟨Nat.le_of_ble_eq_true rfl, Nat.le_of_ble_eq_true rfl⟩ ⟨Nat.le_of_ble_eq_true rfl, Nat.le_of_ble_eq_true rfl⟩ hH (va_recv E.2.2.2.2.2.1 hH.1 (ci := 4) (q0 := 0) rfl wM_g0) hl.1 rfl rfl (lv_room (Nat.le_of_ble_eq_true rfl)) dX4_found_22) hH (fun r3 C2 H locs h hH => ?_)
  exact x_iret E hH h dX4_found_25
set_option maxHeartbeats 4000000 in
set_option maxRecDepth 100000 in
theorem c_X4_found {l : Launch} {D : va_G} {cI cS cO : ClassId} {a : Nat → Nat} {C : MS} {x1 : Int32} {post : Int32 → MS → Prop} (h : w_X4_found post C x1) : MetX l D (tyW cI cS cO) yX4_found cX4_found 2 (some .int) 1 0 0 [.ref (a 0), .int x1] (wM cI cS a C) (QI D (wM cI cS a) post) := by
  refine x_ent (by decide) (Nat.le_of_ble_eq_true rfl) ?_
  intro p e s m below meth c ls E _ hH hl
  have hx := E.1
  have hb := E.2.1
  generalize va_A (wM cI cS a C) s.heap.size = A at hH ⊢
  have hl : lv_has ls 2 [(0, .ref (a 0)), (1, .int x1)] := hl
  unfold w_X4_found at h
  refine lv_iload_n hx hb dX4_found_0 rfl (lv_at hl 1 rfl) ?_
  refine lv_if_ge (tgt := 20) hx hb dX4_found_1 (by decide) (fun hc => ?_) (fun hc => ?_)
  · have h := h.1 hc
    exact k_X4_found_20 E  hH (lv_sub hl [0] rfl) h
  · have h := h.2 hc
    refine lv_iload_n hx hb dX4_found_4 rfl (lv_at hl 1 rfl) ?_
    refine lv_bipush (v := (-6 : Int32)) hx hb dX4_found_5 (by decide) ?_
    refine lv_icmp_lt (tgt := 20) hx hb dX4_found_7 (by decide) (fun hc => ?_) (fun hc => ?_)
    · have h := h.1 hc
      exact k_X4_found_20 E  hH (lv_sub hl [0] rfl) h
    · have h := h.2 hc
      refine lv_aload_n hx hb dX4_found_10 rfl (lv_at hl 0 rfl) ?_
      refine x_get (ci := 4) (CN := RX4) (T := TX4) (N := 20) E in_X4 hH 0 wM_g0 rfl 15 (by decide) kf_X4_49 rfl dX4_found_11 ?_
      refine lv_iload_n hx hb dX4_found_14 rfl (lv_at hl 1 rfl) ?_
      refine lv_ineg hx hb dX4_found_15 ?_
      obtain ⟨hi1, h⟩ := h
      refine x_iald E hH 12 0 wM_g15 rfl hi1 dX4_found_16 ?_
      refine lv_goto (tgt := 25) hx hb dX4_found_17 (by decide) ?_
      exact x_iret E hH h dX4_found_25
end WALKS_M4
