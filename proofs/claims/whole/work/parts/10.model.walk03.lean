section WALKS_M3
variable {p : Program} {l : Launch} {e : Env} {s : State} {m : MethodId} {args : Array Value} {below : List Frame} {meth : Method} {c : Code} {D : va_G} {cI cS cO : ClassId} {a ad : Nat → Nat} {A : Nat → Prop}
set_option maxHeartbeats 4000000 in
set_option maxRecDepth 100000 in
theorem k_X4_count18_26b {post : MS → Prop} (E : Cx p s m args meth c cX4_count 6 RX4 none D (tyW cI cS cO))  {K26 : MS → Int32 → Int32 → Int32 → Prop} (hK26 : ∀ (C : MS) (x1 : Int32) (x3 : Int32) (x5 : Int32) (H : Heap) (locs : List Loc) (ls : Array Slot), HX D (wM cI cS a C) A s.heap H locs → lv_has ls 6 [(0, .ref (a 0)), (1, .int x1), (3, .int x3), (4, .ref (a 18)), (5, .int x5)] → K26 C x1 x3 x5 → W p l e (rmA 1 0 0) s m args below meth c H locs 0 0 (MQ below ((QV D (wM cI cS a) post) A) args s 0 0 A) (F0 m 26 ls [])) {C : MS} {x1 : Int32} {x3 : Int32} {x5 : Int32} {H : Heap} {locs : List Loc} {ls : Array Slot} (hH : HX D (wM cI cS a C) A s.heap H locs) (hl : lv_has ls 6 [(0, .ref (a 0)), (1, .int x1), (3, .int x3), (4, .ref (a 18)), (5, .int x5)]) (h : w_X4_count18_26b post K26 C x1 x3 x5) : W p l e (rmA 1 0 0) s m args below meth c H locs 0 0 (MQ below ((QV D (wM cI cS a) post) A) args s 0 0 A) (F0 m 26 ls []) := by
  have hx := E.1
  have hb := E.2.1
  unfold w_X4_count18_26b at h
  refine lv_iload hx hb dX4_count_26 (lv_at hl 4 rfl) ?_
  refine lv_iload_n hx hb dX4_count_28 rfl (lv_at hl 2 rfl) ?_
  refine lv_icmp_ge (tgt := 52) hx hb dX4_count_29 (by decide) (fun hc => ?_) (fun hc => ?_)
  · have h := h.1 hc
    exact x_vret E hH h dX4_count_52
  · have h := h.2 hc
    refine lv_aload hx hb dX4_count_32 (lv_at hl 3 rfl) ?_
    refine lv_aload_n hx hb dX4_count_34 rfl (lv_at hl 0 rfl) ?_
    refine lv_iload_n hx hb dX4_count_35 rfl (lv_at hl 1 rfl) ?_
    refine lv_iload hx hb dX4_count_36 (lv_at hl 4 rfl) ?_
    refine x_ci (x_runV (As := [.int x1, .int x5]) (rest := [.ref (a 18)]) E (c_X4_valueAt h) yk_X4_valueAt yi_X4_valueAt km_X4_103 ⟨Nat.le_of_ble_eq_true rfl, Nat.le_of_ble_eq_true rfl⟩ ⟨Nat.le_of_ble_eq_true rfl, Nat.le_of_ble_eq_true rfl⟩ hH (va_recv E.2.2.2.2.2.1 hH.1 (ci := 4) (q0 := 0) rfl wM_g0) hl.1 rfl rfl (lv_room (Nat.le_of_ble_eq_true rfl)) dX4_count_38) hH (fun r5 C4 H locs h hH => ?_)
    refine lv_dup2_11 hx hb dX4_count_41 rfl rfl ?_
    obtain ⟨hi6, h⟩ := h
    refine x_iald E hH 15 0 wM_g18 rfl hi6 dX4_count_42 ?_
    refine lv_iconst (v := (1 : Int32)) hx hb dX4_count_43 (by decide) ?_
    refine lv_iadd hx hb dX4_count_44 ?_
    refine x_iast E hH 15 0 wM_g18 rfl hi6 wM_s18 dX4_count_45 (fun H locs hH => ?_)
    refine lv_iinc (v := (x5 + 1)) (lv' := [(5, .int (x5 + 1)), (0, .ref (a 0)), (1, .int x1), (3, .int x3), (4, .ref (a 18))]) hx hb dX4_count_46 hl (k := 4) rfl rfl (by decide) rfl (fun ls hl => ?_)
    refine lv_goto (tgt := 26) hx hb dX4_count_49 (by decide) ?_
    exact hK26 _ _ _ _ _ _ _ hH (lv_sub hl [1, 2, 3, 4, 0] rfl) h
theorem k_X4_count18_26 {post : MS → Prop} (E : Cx p s m args meth c cX4_count 6 RX4 none D (tyW cI cS cO))  (n : Nat) : ∀ {C : MS} {x1 : Int32} {x3 : Int32} {x5 : Int32} {H : Heap} {locs : List Loc} {ls : Array Slot} (hH : HX D (wM cI cS a C) A s.heap H locs) (hl : lv_has ls 6 [(0, .ref (a 0)), (1, .int x1), (3, .int x3), (4, .ref (a 18)), (5, .int x5)]) (h : w_X4_count18_26 post n C x1 x3 x5), W p l e (rmA 1 0 0) s m args below meth c H locs 0 0 (MQ below ((QV D (wM cI cS a) post) A) args s 0 0 A) (F0 m 26 ls []) := by
  induction n with
  | zero => intros; contradiction
  | succ n ih => intro C x1 x3 x5 H locs ls hH hl h; exact k_X4_count18_26b E  (fun C x1 x3 x5 H locs ls hH hl h => ih hH hl h) hH hl h
set_option maxHeartbeats 4000000 in
set_option maxRecDepth 100000 in
theorem k_X4_count18_3b {post : MS → Prop} (E : Cx p s m args meth c cX4_count 6 RX4 none D (tyW cI cS cO))  {K3 : MS → Int32 → Int32 → Int32 → Int32 → Prop} (hK3 : ∀ (C : MS) (x1 : Int32) (x2 : Int32) (x3 : Int32) (x5 : Int32) (H : Heap) (locs : List Loc) (ls : Array Slot), HX D (wM cI cS a C) A s.heap H locs → lv_has ls 6 [(0, .ref (a 0)), (1, .int x1), (2, .int x2), (3, .int x3), (4, .ref (a 18)), (5, .int x5)] → K3 C x1 x2 x3 x5 → W p l e (rmA 1 0 0) s m args below meth c H locs 0 0 (MQ below ((QV D (wM cI cS a) post) A) args s 0 0 A) (F0 m 3 ls [])) {C : MS} {x1 : Int32} {x2 : Int32} {x3 : Int32} {x5 : Int32} {H : Heap} {locs : List Loc} {ls : Array Slot} (hH : HX D (wM cI cS a C) A s.heap H locs) (hl : lv_has ls 6 [(0, .ref (a 0)), (1, .int x1), (2, .int x2), (3, .int x3), (4, .ref (a 18)), (5, .int x5)]) (h : w_X4_count18_3b post K3 C x1 x2 x3 x5) : W p l e (rmA 1 0 0) s m args below meth c H locs 0 0 (MQ below ((QV D (wM cI cS a) post) A) args s 0 0 A) (F0 m 3 ls []) := by
  have hx := E.1
  have hb := E.2.1
  unfold w_X4_count18_3b at h
  refine lv_iload hx hb dX4_count_3 (lv_at hl 5 rfl) ?_
  refine lv_sipush (v := (1024 : Int32)) hx hb dX4_count_5 (by decide) ?_
  refine lv_icmp_ge (tgt := 23) hx hb dX4_count_8 (by decide) (fun hc => ?_) (fun hc => ?_)
  · have h := h.1 hc
    refine lv_iload_n hx hb dX4_count_23 rfl (lv_at hl 2 rfl) ?_
    refine lv_istore (lv' := [(5, .int x2), (0, .ref (a 0)), (1, .int x1), (2, .int x2), (3, .int x3), (4, .ref (a 18))]) hx hb dX4_count_24 hl (by decide) rfl (fun ls hl => ?_)
    obtain ⟨n, h⟩ := h
    exact k_X4_count18_26 E  n hH (lv_sub hl [1, 2, 4, 5, 0] rfl) h
  · have h := h.2 hc
    refine lv_aload hx hb dX4_count_11 (lv_at hl 4 rfl) ?_
    refine lv_iload hx hb dX4_count_13 (lv_at hl 5 rfl) ?_
    refine lv_iconst (v := (0 : Int32)) hx hb dX4_count_15 (by decide) ?_
    obtain ⟨hi3, h⟩ := h
    refine x_iast E hH 15 0 wM_g18 rfl hi3 wM_s18 dX4_count_16 (fun H locs hH => ?_)
    refine lv_iinc (v := (x5 + 1)) (lv' := [(5, .int (x5 + 1)), (0, .ref (a 0)), (1, .int x1), (2, .int x2), (3, .int x3), (4, .ref (a 18))]) hx hb dX4_count_17 hl (k := 5) rfl rfl (by decide) rfl (fun ls hl => ?_)
    refine lv_goto (tgt := 3) hx hb dX4_count_20 (by decide) ?_
    exact hK3 _ _ _ _ _ _ _ _ hH (lv_sub hl [1, 2, 3, 4, 5, 0] rfl) h
theorem k_X4_count18_3 {post : MS → Prop} (E : Cx p s m args meth c cX4_count 6 RX4 none D (tyW cI cS cO))  (n : Nat) : ∀ {C : MS} {x1 : Int32} {x2 : Int32} {x3 : Int32} {x5 : Int32} {H : Heap} {locs : List Loc} {ls : Array Slot} (hH : HX D (wM cI cS a C) A s.heap H locs) (hl : lv_has ls 6 [(0, .ref (a 0)), (1, .int x1), (2, .int x2), (3, .int x3), (4, .ref (a 18)), (5, .int x5)]) (h : w_X4_count18_3 post n C x1 x2 x3 x5), W p l e (rmA 1 0 0) s m args below meth c H locs 0 0 (MQ below ((QV D (wM cI cS a) post) A) args s 0 0 A) (F0 m 3 ls []) := by
  induction n with
  | zero => intros; contradiction
  | succ n ih => intro C x1 x2 x3 x5 H locs ls hH hl h; exact k_X4_count18_3b E  (fun C x1 x2 x3 x5 H locs ls hH hl h => ih hH hl h) hH hl h
set_option maxHeartbeats 4000000 in
set_option maxRecDepth 100000 in
theorem c_X4_count18 {l : Launch} {D : va_G} {cI cS cO : ClassId} {a : Nat → Nat} {C : MS} {x1 : Int32} {x2 : Int32} {x3 : Int32} {post : MS → Prop} (h : w_X4_count18 post C x1 x2 x3) : MetX l D (tyW cI cS cO) yX4_count cX4_count 6 none 1 0 0 [.ref (a 0), .int x1, .int x2, .int x3, .ref (a 18)] (wM cI cS a C) (QV D (wM cI cS a) post) := by
  refine x_ent (by decide) (Nat.le_of_ble_eq_true rfl) ?_
  intro p e s m below meth c ls E _ hH hl
  have hx := E.1
  have hb := E.2.1
  generalize va_A (wM cI cS a C) s.heap.size = A at hH ⊢
  have hl : lv_has ls 6 [(0, .ref (a 0)), (1, .int x1), (2, .int x2), (3, .int x3), (4, .ref (a 18))] := hl
  unfold w_X4_count18 at h
  refine lv_iconst (v := (0 : Int32)) hx hb dX4_count_0 (by decide) ?_
  refine lv_istore (lv' := [(5, .int (0 : Int32)), (0, .ref (a 0)), (1, .int x1), (2, .int x2), (3, .int x3), (4, .ref (a 18))]) hx hb dX4_count_1 hl (by decide) rfl (fun ls hl => ?_)
  obtain ⟨n, h⟩ := h
  exact k_X4_count18_3 E  n hH (lv_sub hl [1, 2, 3, 4, 5, 0] rfl) h
set_option maxHeartbeats 4000000 in
set_option maxRecDepth 100000 in
theorem k_X4_count19_26b {post : MS → Prop} (E : Cx p s m args meth c cX4_count 6 RX4 none D (tyW cI cS cO))  {K26 : MS → Int32 → Int32 → Int32 → Prop} (hK26 : ∀ (C : MS) (x1 : Int32) (x3 : Int32) (x5 : Int32) (H : Heap) (locs : List Loc) (ls : Array Slot), HX D (wM cI cS a C) A s.heap H locs → lv_has ls 6 [(0, .ref (a 0)), (1, .int x1), (3, .int x3), (4, .ref (a 19)), (5, .int x5)] → K26 C x1 x3 x5 → W p l e (rmA 1 0 0) s m args below meth c H locs 0 0 (MQ below ((QV D (wM cI cS a) post) A) args s 0 0 A) (F0 m 26 ls [])) {C : MS} {x1 : Int32} {x3 : Int32} {x5 : Int32} {H : Heap} {locs : List Loc} {ls : Array Slot} (hH : HX D (wM cI cS a C) A s.heap H locs) (hl : lv_has ls 6 [(0, .ref (a 0)), (1, .int x1), (3, .int x3), (4, .ref (a 19)), (5, .int x5)]) (h : w_X4_count19_26b post K26 C x1 x3 x5) : W p l e (rmA 1 0 0) s m args below meth c H locs 0 0 (MQ below ((QV D (wM cI cS a) post) A) args s 0 0 A) (F0 m 26 ls []) := by
  have hx := E.1
  have hb := E.2.1
  unfold w_X4_count19_26b at h
  refine lv_iload hx hb dX4_count_26 (lv_at hl 4 rfl) ?_
  refine lv_iload_n hx hb dX4_count_28 rfl (lv_at hl 2 rfl) ?_
  refine lv_icmp_ge (tgt := 52) hx hb dX4_count_29 (by decide) (fun hc => ?_) (fun hc => ?_)
  · have h := h.1 hc
    exact x_vret E hH h dX4_count_52
  · have h := h.2 hc
    refine lv_aload hx hb dX4_count_32 (lv_at hl 3 rfl) ?_
    refine lv_aload_n hx hb dX4_count_34 rfl (lv_at hl 0 rfl) ?_
    refine lv_iload_n hx hb dX4_count_35 rfl (lv_at hl 1 rfl) ?_
    refine lv_iload hx hb dX4_count_36 (lv_at hl 4 rfl) ?_
    refine x_ci (x_runV (As := [.int x1, .int x5]) (rest := [.ref (a 19)]) E (c_X4_valueAt h) yk_X4_valueAt yi_X4_valueAt km_X4_103 ⟨Nat.le_of_ble_eq_true rfl, Nat.le_of_ble_eq_true rfl⟩ ⟨Nat.le_of_ble_eq_true rfl, Nat.le_of_ble_eq_true rfl⟩ hH (va_recv E.2.2.2.2.2.1 hH.1 (ci := 4) (q0 := 0) rfl wM_g0) hl.1 rfl rfl (lv_room (Nat.le_of_ble_eq_true rfl)) dX4_count_38) hH (fun r5 C4 H locs h hH => ?_)
    refine lv_dup2_11 hx hb dX4_count_41 rfl rfl ?_
    obtain ⟨hi6, h⟩ := h
    refine x_iald E hH 16 0 wM_g19 rfl hi6 dX4_count_42 ?_
    refine lv_iconst (v := (1 : Int32)) hx hb dX4_count_43 (by decide) ?_
    refine lv_iadd hx hb dX4_count_44 ?_
    refine x_iast E hH 16 0 wM_g19 rfl hi6 wM_s19 dX4_count_45 (fun H locs hH => ?_)
    refine lv_iinc (v := (x5 + 1)) (lv' := [(5, .int (x5 + 1)), (0, .ref (a 0)), (1, .int x1), (3, .int x3), (4, .ref (a 19))]) hx hb dX4_count_46 hl (k := 4) rfl rfl (by decide) rfl (fun ls hl => ?_)
    refine lv_goto (tgt := 26) hx hb dX4_count_49 (by decide) ?_
    exact hK26 _ _ _ _ _ _ _ hH (lv_sub hl [1, 2, 3, 4, 0] rfl) h
theorem k_X4_count19_26 {post : MS → Prop} (E : Cx p s m args meth c cX4_count 6 RX4 none D (tyW cI cS cO))  (n : Nat) : ∀ {C : MS} {x1 : Int32} {x3 : Int32} {x5 : Int32} {H : Heap} {locs : List Loc} {ls : Array Slot} (hH : HX D (wM cI cS a C) A s.heap H locs) (hl : lv_has ls 6 [(0, .ref (a 0)), (1, .int x1), (3, .int x3), (4, .ref (a 19)), (5, .int x5)]) (h : w_X4_count19_26 post n C x1 x3 x5), W p l e (rmA 1 0 0) s m args below meth c H locs 0 0 (MQ below ((QV D (wM cI cS a) post) A) args s 0 0 A) (F0 m 26 ls []) := by
  induction n with
  | zero => intros; contradiction
  | succ n ih => intro C x1 x3 x5 H locs ls hH hl h; exact k_X4_count19_26b E  (fun C x1 x3 x5 H locs ls hH hl h => ih hH hl h) hH hl h
set_option maxHeartbeats 4000000 in
set_option maxRecDepth 100000 in
theorem k_X4_count19_3b {post : MS → Prop} (E : Cx p s m args meth c cX4_count 6 RX4 none D (tyW cI cS cO))  {K3 : MS → Int32 → Int32 → Int32 → Int32 → Prop} (hK3 : ∀ (C : MS) (x1 : Int32) (x2 : Int32) (x3 : Int32) (x5 : Int32) (H : Heap) (locs : List Loc) (ls : Array Slot), HX D (wM cI cS a C) A s.heap H locs → lv_has ls 6 [(0, .ref (a 0)), (1, .int x1), (2, .int x2), (3, .int x3), (4, .ref (a 19)), (5, .int x5)] → K3 C x1 x2 x3 x5 → W p l e (rmA 1 0 0) s m args below meth c H locs 0 0 (MQ below ((QV D (wM cI cS a) post) A) args s 0 0 A) (F0 m 3 ls [])) {C : MS} {x1 : Int32} {x2 : Int32} {x3 : Int32} {x5 : Int32} {H : Heap} {locs : List Loc} {ls : Array Slot} (hH : HX D (wM cI cS a C) A s.heap H locs) (hl : lv_has ls 6 [(0, .ref (a 0)), (1, .int x1), (2, .int x2), (3, .int x3), (4, .ref (a 19)), (5, .int x5)]) (h : w_X4_count19_3b post K3 C x1 x2 x3 x5) : W p l e (rmA 1 0 0) s m args below meth c H locs 0 0 (MQ below ((QV D (wM cI cS a) post) A) args s 0 0 A) (F0 m 3 ls []) := by
  have hx := E.1
  have hb := E.2.1
  unfold w_X4_count19_3b at h
  refine lv_iload hx hb dX4_count_3 (lv_at hl 5 rfl) ?_
  refine lv_sipush (v := (1024 : Int32)) hx hb dX4_count_5 (by decide) ?_
  refine lv_icmp_ge (tgt := 23) hx hb dX4_count_8 (by decide) (fun hc => ?_) (fun hc => ?_)
  · have h := h.1 hc
    refine lv_iload_n hx hb dX4_count_23 rfl (lv_at hl 2 rfl) ?_
    refine lv_istore (lv' := [(5, .int x2), (0, .ref (a 0)), (1, .int x1), (2, .int x2), (3, .int x3), (4, .ref (a 19))]) hx hb dX4_count_24 hl (by decide) rfl (fun ls hl => ?_)
    obtain ⟨n, h⟩ := h
    exact k_X4_count19_26 E  n hH (lv_sub hl [1, 2, 4, 5, 0] rfl) h
  · have h := h.2 hc
    refine lv_aload hx hb dX4_count_11 (lv_at hl 4 rfl) ?_
    refine lv_iload hx hb dX4_count_13 (lv_at hl 5 rfl) ?_
    refine lv_iconst (v := (0 : Int32)) hx hb dX4_count_15 (by decide) ?_
    obtain ⟨hi3, h⟩ := h
    refine x_iast E hH 16 0 wM_g19 rfl hi3 wM_s19 dX4_count_16 (fun H locs hH => ?_)
    refine lv_iinc (v := (x5 + 1)) (lv' := [(5, .int (x5 + 1)), (0, .ref (a 0)), (1, .int x1), (2, .int x2), (3, .int x3), (4, .ref (a 19))]) hx hb dX4_count_17 hl (k := 5) rfl rfl (by decide) rfl (fun ls hl => ?_)
    refine lv_goto (tgt := 3) hx hb dX4_count_20 (by decide) ?_
    exact hK3 _ _ _ _ _ _ _ _ hH (lv_sub hl [1, 2, 3, 4, 5, 0] rfl) h
theorem k_X4_count19_3 {post : MS → Prop} (E : Cx p s m args meth c cX4_count 6 RX4 none D (tyW cI cS cO))  (n : Nat) : ∀ {C : MS} {x1 : Int32} {x2 : Int32} {x3 : Int32} {x5 : Int32} {H : Heap} {locs : List Loc} {ls : Array Slot} (hH : HX D (wM cI cS a C) A s.heap H locs) (hl : lv_has ls 6 [(0, .ref (a 0)), (1, .int x1), (2, .int x2), (3, .int x3), (4, .ref (a 19)), (5, .int x5)]) (h : w_X4_count19_3 post n C x1 x2 x3 x5), W p l e (rmA 1 0 0) s m args below meth c H locs 0 0 (MQ below ((QV D (wM cI cS a) post) A) args s 0 0 A) (F0 m 3 ls []) := by
  induction n with
  | zero => intros; contradiction
  | succ n ih => intro C x1 x2 x3 x5 H locs ls hH hl h; exact k_X4_count19_3b E  (fun C x1 x2 x3 x5 H locs ls hH hl h => ih hH hl h) hH hl h
set_option maxHeartbeats 4000000 in
set_option maxRecDepth 100000 in
theorem c_X4_count19 {l : Launch} {D : va_G} {cI cS cO : ClassId} {a : Nat → Nat} {C : MS} {x1 : Int32} {x2 : Int32} {x3 : Int32} {post : MS → Prop} (h : w_X4_count19 post C x1 x2 x3) : MetX l D (tyW cI cS cO) yX4_count cX4_count 6 none 1 0 0 [.ref (a 0), .int x1, .int x2, .int x3, .ref (a 19)] (wM cI cS a C) (QV D (wM cI cS a) post) := by
  refine x_ent (by decide) (Nat.le_of_ble_eq_true rfl) ?_
  intro p e s m below meth c ls E _ hH hl
  have hx := E.1
  have hb := E.2.1
  generalize va_A (wM cI cS a C) s.heap.size = A at hH ⊢
  have hl : lv_has ls 6 [(0, .ref (a 0)), (1, .int x1), (2, .int x2), (3, .int x3), (4, .ref (a 19))] := hl
  unfold w_X4_count19 at h
  refine lv_iconst (v := (0 : Int32)) hx hb dX4_count_0 (by decide) ?_
  refine lv_istore (lv' := [(5, .int (0 : Int32)), (0, .ref (a 0)), (1, .int x1), (2, .int x2), (3, .int x3), (4, .ref (a 19))]) hx hb dX4_count_1 hl (by decide) rfl (fun ls hl => ?_)
  obtain ⟨n, h⟩ := h
  exact k_X4_count19_3 E  n hH (lv_sub hl [1, 2, 3, 4, 5, 0] rfl) h
set_option maxHeartbeats 4000000 in
set_option maxRecDepth 100000 in
theorem k_X4_find_155 {post : Int32 → MS → Prop} (E : Cx p s m args meth c cX4_find 12 RX4 (some .int) D (tyW cI cS cO)) {K80 : MS → Int32 → Int32 → Int32 → Int32 → Int32 → Prop} {K106 : MS → Int32 → Int32 → Int32 → Int32 → Int32 → Int32 → Int32 → Int32 → Prop} (hK80 : ∀ (C : MS) (x1 : Int32) (x2 : Int32) (x3 : Int32) (x5 : Int32) (x7 : Int32) (H : Heap) (locs : List Loc) (ls : Array Slot), HX D (wM cI cS a C) A s.heap H locs → lv_has ls 12 [(0, .ref (a 0)), (1, .int x1), (2, .int x2), (3, .int x3), (5, .int x5), (7, .int x7)] → K80 C x1 x2 x3 x5 x7 → W p l e (rmA 2 0 0) s m args below meth c H locs 0 0 (MQ below ((QI D (wM cI cS a) post) A) args s 0 0 A) (F0 m 80 ls [])) (hK106 : ∀ (C : MS) (x1 : Int32) (x2 : Int32) (x3 : Int32) (x5 : Int32) (x7 : Int32) (x8 : Int32) (x9 : Int32) (x10 : Int32) (H : Heap) (locs : List Loc) (ls : Array Slot), HX D (wM cI cS a C) A s.heap H locs → lv_has ls 12 [(0, .ref (a 0)), (1, .int x1), (2, .int x2), (3, .int x3), (5, .int x5), (7, .int x7), (8, .int x8), (9, .int x9), (10, .int x10)] → K106 C x1 x2 x3 x5 x7 x8 x9 x10 → W p l e (rmA 2 0 0) s m args below meth c H locs 0 0 (MQ below ((QI D (wM cI cS a) post) A) args s 0 0 A) (F0 m 106 ls [])) {C : MS} {x1 : Int32} {x2 : Int32} {x3 : Int32} {x5 : Int32} {x7 : Int32} {x8 : Int32} {x10 : Int32} {s0 : Int32} {s1 : Int32} {H : Heap} {locs : List Loc} {ls : Array Slot} (hH : HX D (wM cI cS a C) A s.heap H locs) (hl : lv_has ls 12 [(0, .ref (a 0)), (1, .int x1), (2, .int x2), (3, .int x3), (5, .int x5), (7, .int x7), (8, .int x8), (10, .int x10)]) (h : w_X4_find_155 post K80 K106 C x1 x2 x3 x5 x7 x8 x10 s0 s1) : W p l e (rmA 2 0 0) s m args below meth c H locs 0 0 (MQ below ((QI D (wM cI cS a) post) A) args s 0 0 A) (F0 m 155 ls [.int s0, .int s1]) := by
  have hx := E.1
  have hb := E.2.1
  unfold w_X4_find_155 at h
  refine lv_iadd hx hb dX4_find_155 ?_
  refine lv_istore (lv' := [(9, .int (s1 + s0)), (0, .ref (a 0)), (1, .int x1), (2, .int x2), (3, .int x3), (5, .int x5), (7, .int x7), (8, .int x8), (10, .int x10)]) hx hb dX4_find_156 hl (by decide) rfl (fun ls hl => ?_)
  refine lv_iinc (v := (x10 + 1)) (lv' := [(10, .int (x10 + 1)), (9, .int (s1 + s0)), (0, .ref (a 0)), (1, .int x1), (2, .int x2), (3, .int x3), (5, .int x5), (7, .int x7), (8, .int x8)]) hx hb dX4_find_158 hl (k := 8) rfl rfl (by decide) rfl (fun ls hl => ?_)
  refine lv_goto (tgt := 106) hx hb dX4_find_161 (by decide) ?_
  exact hK106 _ _ _ _ _ _ _ _ _ _ _ _ hH (lv_sub hl [2, 3, 4, 5, 6, 7, 8, 1, 0] rfl) h
set_option maxHeartbeats 4000000 in
set_option maxRecDepth 100000 in
theorem k_X4_find_154 {post : Int32 → MS → Prop} (E : Cx p s m args meth c cX4_find 12 RX4 (some .int) D (tyW cI cS cO)) {K80 : MS → Int32 → Int32 → Int32 → Int32 → Int32 → Prop} {K106 : MS → Int32 → Int32 → Int32 → Int32 → Int32 → Int32 → Int32 → Int32 → Prop} (hK80 : ∀ (C : MS) (x1 : Int32) (x2 : Int32) (x3 : Int32) (x5 : Int32) (x7 : Int32) (H : Heap) (locs : List Loc) (ls : Array Slot), HX D (wM cI cS a C) A s.heap H locs → lv_has ls 12 [(0, .ref (a 0)), (1, .int x1), (2, .int x2), (3, .int x3), (5, .int x5), (7, .int x7)] → K80 C x1 x2 x3 x5 x7 → W p l e (rmA 2 0 0) s m args below meth c H locs 0 0 (MQ below ((QI D (wM cI cS a) post) A) args s 0 0 A) (F0 m 80 ls [])) (hK106 : ∀ (C : MS) (x1 : Int32) (x2 : Int32) (x3 : Int32) (x5 : Int32) (x7 : Int32) (x8 : Int32) (x9 : Int32) (x10 : Int32) (H : Heap) (locs : List Loc) (ls : Array Slot), HX D (wM cI cS a C) A s.heap H locs → lv_has ls 12 [(0, .ref (a 0)), (1, .int x1), (2, .int x2), (3, .int x3), (5, .int x5), (7, .int x7), (8, .int x8), (9, .int x9), (10, .int x10)] → K106 C x1 x2 x3 x5 x7 x8 x9 x10 → W p l e (rmA 2 0 0) s m args below meth c H locs 0 0 (MQ below ((QI D (wM cI cS a) post) A) args s 0 0 A) (F0 m 106 ls [])) {C : MS} {x1 : Int32} {x2 : Int32} {x3 : Int32} {x5 : Int32} {x7 : Int32} {x8 : Int32} {x10 : Int32} {s0 : Int32} {H : Heap} {locs : List Loc} {ls : Array Slot} (hH : HX D (wM cI cS a C) A s.heap H locs) (hl : lv_has ls 12 [(0, .ref (a 0)), (1, .int x1), (2, .int x2), (3, .int x3), (5, .int x5), (7, .int x7), (8, .int x8), (10, .int x10)]) (h : w_X4_find_154 post K80 K106 C x1 x2 x3 x5 x7 x8 x10 s0) : W p l e (rmA 2 0 0) s m args below meth c H locs 0 0 (MQ below ((QI D (wM cI cS a) post) A) args s 0 0 A) (F0 m 154 ls [.int s0]) := by
  have hx := E.1
  have hb := E.2.1
  unfold w_X4_find_154 at h
  refine lv_iconst (v := (0 : Int32)) hx hb dX4_find_154 (by decide) ?_
  exact k_X4_find_155 E hK80 hK106 hH (lv_sub hl [0, 1, 2, 3, 4, 5, 6, 7] rfl) h
set_option maxHeartbeats 4000000 in
set_option maxRecDepth 100000 in
theorem k_X4_find_106b {post : Int32 → MS → Prop} (E : Cx p s m args meth c cX4_find 12 RX4 (some .int) D (tyW cI cS cO)) {K80 : MS → Int32 → Int32 → Int32 → Int32 → Int32 → Prop} (hK80 : ∀ (C : MS) (x1 : Int32) (x2 : Int32) (x3 : Int32) (x5 : Int32) (x7 : Int32) (H : Heap) (locs : List Loc) (ls : Array Slot), HX D (wM cI cS a C) A s.heap H locs → lv_has ls 12 [(0, .ref (a 0)), (1, .int x1), (2, .int x2), (3, .int x3), (5, .int x5), (7, .int x7)] → K80 C x1 x2 x3 x5 x7 → W p l e (rmA 2 0 0) s m args below meth c H locs 0 0 (MQ below ((QI D (wM cI cS a) post) A) args s 0 0 A) (F0 m 80 ls [])) {K106 : MS → Int32 → Int32 → Int32 → Int32 → Int32 → Int32 → Int32 → Int32 → Prop} (hK106 : ∀ (C : MS) (x1 : Int32) (x2 : Int32) (x3 : Int32) (x5 : Int32) (x7 : Int32) (x8 : Int32) (x9 : Int32) (x10 : Int32) (H : Heap) (locs : List Loc) (ls : Array Slot), HX D (wM cI cS a C) A s.heap H locs → lv_has ls 12 [(0, .ref (a 0)), (1, .int x1), (2, .int x2), (3, .int x3), (5, .int x5), (7, .int x7), (8, .int x8), (9, .int x9), (10, .int x10)] → K106 C x1 x2 x3 x5 x7 x8 x9 x10 → W p l e (rmA 2 0 0) s m args below meth c H locs 0 0 (MQ below ((QI D (wM cI cS a) post) A) args s 0 0 A) (F0 m 106 ls [])) {C : MS} {x1 : Int32} {x2 : Int32} {x3 : Int32} {x5 : Int32} {x7 : Int32} {x8 : Int32} {x9 : Int32} {x10 : Int32} {H : Heap} {locs : List Loc} {ls : Array Slot} (hH : HX D (wM cI cS a C) A s.heap H locs) (hl : lv_has ls 12 [(0, .ref (a 0)), (1, .int x1), (2, .int x2), (3, .int x3), (5, .int x5), (7, .int x7), (8, .int x8), (9, .int x9), (10, .int x10)]) (h : w_X4_find_106b post K80 K106 C x1 x2 x3 x5 x7 x8 x9 x10) : W p l e (rmA 2 0 0) s m args below meth c H locs 0 0 (MQ below ((QI D (wM cI cS a) post) A) args s 0 0 A) (F0 m 106 ls []) := by
  have hx := E.1
  have hb := E.2.1
  unfold w_X4_find_106b at h
  refine lv_iload hx hb dX4_find_106 (lv_at hl 8 rfl) ?_
  refine lv_iload_n hx hb dX4_find_108 rfl (lv_at hl 3 rfl) ?_
  refine lv_icmp_ge (tgt := 164) hx hb dX4_find_109 (by decide) (fun hc => ?_) (fun hc => ?_)
  · have h := h.1 hc
    refine lv_aload_n hx hb dX4_find_164 rfl (lv_at hl 0 rfl) ?_
    refine x_get (ci := 4) (CN := RX4) (T := TX4) (N := 20) E in_X4 hH 0 wM_g0 rfl 13 (by decide) kf_X4_46 rfl dX4_find_165 ?_
    refine lv_iload hx hb dX4_find_168 (lv_at hl 5 rfl) ?_
    refine lv_iload hx hb dX4_find_170 (lv_at hl 7 rfl) ?_
    obtain ⟨hi11, h⟩ := h
    refine x_iast E hH 11 0 wM_g13 rfl hi11 wM_s13 dX4_find_172 (fun H locs hH => ?_)
    refine lv_iinc (v := (x7 + 1)) (lv' := [(7, .int (x7 + 1)), (0, .ref (a 0)), (1, .int x1), (2, .int x2), (3, .int x3), (5, .int x5), (8, .int x8), (9, .int x9), (10, .int x10)]) hx hb dX4_find_173 hl (k := 5) rfl rfl (by decide) rfl (fun ls hl => ?_)
    refine lv_goto (tgt := 80) hx hb dX4_find_176 (by decide) ?_
    exact hK80 _ _ _ _ _ _ _ _ _ hH (lv_sub hl [1, 2, 3, 4, 5, 0] rfl) h
  · have h := h.2 hc
    refine lv_aload_n hx hb dX4_find_112 rfl (lv_at hl 0 rfl) ?_
    refine lv_iload_n hx hb dX4_find_113 rfl (lv_at hl 1 rfl) ?_
    refine lv_iload hx hb dX4_find_114 (lv_at hl 8 rfl) ?_
    refine x_ci (x_runV (As := [.int x1, .int x10]) (rest := []) E (c_X4_valueAt h) yk_X4_valueAt yi_X4_valueAt km_X4_103 ⟨Nat.le_of_ble_eq_true rfl, Nat.le_of_ble_eq_true rfl⟩ ⟨Nat.le_of_ble_eq_true rfl, Nat.le_of_ble_eq_true rfl⟩ hH (va_recv E.2.2.2.2.2.1 hH.1 (ci := 4) (q0 := 0) rfl wM_g0) hl.1 rfl rfl (lv_room (Nat.le_of_ble_eq_true rfl)) dX4_find_116) hH (fun r13 C12 H locs h hH => ?_)
    refine lv_istore (lv' := [(11, .int r13), (0, .ref (a 0)), (1, .int x1), (2, .int x2), (3, .int x3), (5, .int x5), (7, .int x7), (8, .int x8), (9, .int x9), (10, .int x10)]) hx hb dX4_find_119 hl (by decide) rfl (fun ls hl => ?_)
    refine lv_iload hx hb dX4_find_121 (lv_at hl 8 rfl) ?_
    refine lv_iload hx hb dX4_find_123 (lv_at hl 0 rfl) ?_
    refine lv_iload hx hb dX4_find_125 (lv_at hl 7 rfl) ?_
    refine lv_iconst (v := (1 : Int32)) hx hb dX4_find_127 (by decide) ?_
    refine lv_iadd hx hb dX4_find_128 ?_
    refine lv_ishr hx hb dX4_find_129 ?_
    refine lv_iload hx hb dX4_find_130 (lv_at hl 5 rfl) ?_
    refine lv_iload hx hb dX4_find_132 (lv_at hl 7 rfl) ?_
    refine lv_iconst (v := (1 : Int32)) hx hb dX4_find_134 (by decide) ?_
    refine lv_iadd hx hb dX4_find_135 ?_
    refine lv_ishr hx hb dX4_find_136 ?_
    refine lv_icmp_ne (tgt := 154) hx hb dX4_find_137 (by decide) (fun hc => ?_) (fun hc => ?_)
    · have h := h.1 hc
      exact k_X4_find_154 E hK80 hK106 hH (lv_sub hl [1, 2, 3, 4, 5, 6, 7, 9] rfl) h
    · have h := h.2 hc
      refine lv_iload hx hb dX4_find_140 (lv_at hl 0 rfl) ?_
      refine lv_iload hx hb dX4_find_142 (lv_at hl 7 rfl) ?_
      refine lv_ishr hx hb dX4_find_144 ?_
      refine lv_iconst (v := (1 : Int32)) hx hb dX4_find_145 (by decide) ?_
      refine lv_iand hx hb dX4_find_146 ?_
      refine lv_if_ne (tgt := 154) hx hb dX4_find_147 (by decide) (fun hc => ?_) (fun hc => ?_)
      · have h := h.1 hc
        exact k_X4_find_154 E hK80 hK106 hH (lv_sub hl [1, 2, 3, 4, 5, 6, 7, 9] rfl) h
      · have h := h.2 hc
        refine lv_iconst (v := (1 : Int32)) hx hb dX4_find_150 (by decide) ?_
        refine lv_goto (tgt := 155) hx hb dX4_find_151 (by decide) ?_
        exact k_X4_find_155 E hK80 hK106 hH (lv_sub hl [1, 2, 3, 4, 5, 6, 7, 9] rfl) h
theorem k_X4_find_106 {post : Int32 → MS → Prop} (E : Cx p s m args meth c cX4_find 12 RX4 (some .int) D (tyW cI cS cO)) {K80 : MS → Int32 → Int32 → Int32 → Int32 → Int32 → Prop} (hK80 : ∀ (C : MS) (x1 : Int32) (x2 : Int32) (x3 : Int32) (x5 : Int32) (x7 : Int32) (H : Heap) (locs : List Loc) (ls : Array Slot), HX D (wM cI cS a C) A s.heap H locs → lv_has ls 12 [(0, .ref (a 0)), (1, .int x1), (2, .int x2), (3, .int x3), (5, .int x5), (7, .int x7)] → K80 C x1 x2 x3 x5 x7 → W p l e (rmA 2 0 0) s m args below meth c H locs 0 0 (MQ below ((QI D (wM cI cS a) post) A) args s 0 0 A) (F0 m 80 ls [])) (n : Nat) : ∀ {C : MS} {x1 : Int32} {x2 : Int32} {x3 : Int32} {x5 : Int32} {x7 : Int32} {x8 : Int32} {x9 : Int32} {x10 : Int32} {H : Heap} {locs : List Loc} {ls : Array Slot} (hH : HX D (wM cI cS a C) A s.heap H locs) (hl : lv_has ls 12 [(0, .ref (a 0)), (1, .int x1), (2, .int x2), (3, .int x3), (5, .int x5), (7, .int x7), (8, .int x8), (9, .int x9), (10, .int x10)]) (h : w_X4_find_106 post K80 n C x1 x2 x3 x5 x7 x8 x9 x10), W p l e (rmA 2 0 0) s m args below meth c H locs 0 0 (MQ below ((QI D (wM cI cS a) post) A) args s 0 0 A) (F0 m 106 ls []) := by
  induction n with
  | zero => intros; contradiction
  | succ n ih => intro C x1 x2 x3 x5 x7 x8 x9 x10 H locs ls hH hl h; exact k_X4_find_106b E hK80 (fun C x1 x2 x3 x5 x7 x8 x9 x10 H locs ls hH hl h => ih hH hl h) hH hl h
set_option maxHeartbeats 4000000 in
set_option maxRecDepth 100000 in
theorem k_X4_find_80b {post : Int32 → MS → Prop} (E : Cx p s m args meth c cX4_find 12 RX4 (some .int) D (tyW cI cS cO))  {K80 : MS → Int32 → Int32 → Int32 → Int32 → Int32 → Prop} (hK80 : ∀ (C : MS) (x1 : Int32) (x2 : Int32) (x3 : Int32) (x5 : Int32) (x7 : Int32) (H : Heap) (locs : List Loc) (ls : Array Slot), HX D (wM cI cS a C) A s.heap H locs → lv_has ls 12 [(0, .ref (a 0)), (1, .int x1), (2, .int x2), (3, .int x3), (5, .int x5), (7, .int x7)] → K80 C x1 x2 x3 x5 x7 → W p l e (rmA 2 0 0) s m args below meth c H locs 0 0 (MQ below ((QI D (wM cI cS a) post) A) args s 0 0 A) (F0 m 80 ls [])) {C : MS} {x1 : Int32} {x2 : Int32} {x3 : Int32} {x5 : Int32} {x7 : Int32} {H : Heap} {locs : List Loc} {ls : Array Slot} (hH : HX D (wM cI cS a C) A s.heap H locs) (hl : lv_has ls 12 [(0, .ref (a 0)), (1, .int x1), (2, .int x2), (3, .int x3), (5, .int x5), (7, .int x7)]) (h : w_X4_find_80b post K80 C x1 x2 x3 x5 x7) : W p l e (rmA 2 0 0) s m args below meth c H locs 0 0 (MQ below ((QI D (wM cI cS a) post) A) args s 0 0 A) (F0 m 80 ls []) := by
  have hx := E.1
  have hb := E.2.1
  unfold w_X4_find_80b at h
  refine lv_iload hx hb dX4_find_80 (lv_at hl 5 rfl) ?_
  refine lv_aload_n hx hb dX4_find_82 rfl (lv_at hl 0 rfl) ?_
  refine x_get (ci := 4) (CN := RX4) (T := TX4) (N := 20) E in_X4 hH 0 wM_g0 rfl 14 (by decide) kf_X4_138 rfl dX4_find_83 ?_
  refine lv_icmp_ge (tgt := 179) hx hb dX4_find_86 (by decide) (fun hc => ?_) (fun hc => ?_)
  · have h := h.1 hc
    refine lv_iload hx hb dX4_find_179 (lv_at hl 4 rfl) ?_
    exact x_iret E hH h dX4_find_181
  · have h := h.2 hc
    refine lv_aload_n hx hb dX4_find_89 rfl (lv_at hl 0 rfl) ?_
    refine x_get (ci := 4) (CN := RX4) (T := TX4) (N := 20) E in_X4 hH 0 wM_g0 rfl 14 (by decide) kf_X4_138 rfl dX4_find_90 ?_
    refine lv_iconst (v := (1 : Int32)) hx hb dX4_find_93 (by decide) ?_
    refine lv_isub hx hb dX4_find_94 ?_
    refine lv_iload hx hb dX4_find_95 (lv_at hl 5 rfl) ?_
    refine lv_isub hx hb dX4_find_97 ?_
    refine lv_istore (lv' := [(8, .int (((mz C 14) - (1 : Int32)) - x7)), (0, .ref (a 0)), (1, .int x1), (2, .int x2), (3, .int x3), (5, .int x5), (7, .int x7)]) hx hb dX4_find_98 hl (by decide) rfl (fun ls hl => ?_)
    refine lv_iconst (v := (0 : Int32)) hx hb dX4_find_100 (by decide) ?_
    refine lv_istore (lv' := [(9, .int (0 : Int32)), (8, .int (((mz C 14) - (1 : Int32)) - x7)), (0, .ref (a 0)), (1, .int x1), (2, .int x2), (3, .int x3), (5, .int x5), (7, .int x7)]) hx hb dX4_find_101 hl (by decide) rfl (fun ls hl => ?_)
    refine lv_iload_n hx hb dX4_find_103 rfl (lv_at hl 4 rfl) ?_
    refine lv_istore (lv' := [(10, .int x2), (9, .int (0 : Int32)), (8, .int (((mz C 14) - (1 : Int32)) - x7)), (0, .ref (a 0)), (1, .int x1), (2, .int x2), (3, .int x3), (5, .int x5), (7, .int x7)]) hx hb dX4_find_104 hl (by decide) rfl (fun ls hl => ?_)
    obtain ⟨n, h⟩ := h
    exact k_X4_find_106 E hK80 n hH (lv_sub hl [3, 4, 5, 6, 7, 8, 2, 1, 0] rfl) h
theorem k_X4_find_80 {post : Int32 → MS → Prop} (E : Cx p s m args meth c cX4_find 12 RX4 (some .int) D (tyW cI cS cO))  (n : Nat) : ∀ {C : MS} {x1 : Int32} {x2 : Int32} {x3 : Int32} {x5 : Int32} {x7 : Int32} {H : Heap} {locs : List Loc} {ls : Array Slot} (hH : HX D (wM cI cS a C) A s.heap H locs) (hl : lv_has ls 12 [(0, .ref (a 0)), (1, .int x1), (2, .int x2), (3, .int x3), (5, .int x5), (7, .int x7)]) (h : w_X4_find_80 post n C x1 x2 x3 x5 x7), W p l e (rmA 2 0 0) s m args below meth c H locs 0 0 (MQ below ((QI D (wM cI cS a) post) A) args s 0 0 A) (F0 m 80 ls []) := by
  induction n with
  | zero => intros; contradiction
  | succ n ih => intro C x1 x2 x3 x5 x7 H locs ls hH hl h; exact k_X4_find_80b E  (fun C x1 x2 x3 x5 x7 H locs ls hH hl h => ih hH hl h) hH hl h
set_option maxHeartbeats 4000000 in
set_option maxRecDepth 100000 in
theorem k_X4_find_38b {post : Int32 → MS → Prop} (E : Cx p s m args meth c cX4_find 12 RX4 (some .int) D (tyW cI cS cO))  {K38 : MS → Int32 → Int32 → Int32 → Int32 → Int32 → Prop} (hK38 : ∀ (C : MS) (x1 : Int32) (x2 : Int32) (x3 : Int32) (x5 : Int32) (x6 : Int32) (H : Heap) (locs : List Loc) (ls : Array Slot), HX D (wM cI cS a C) A s.heap H locs → lv_has ls 12 [(0, .ref (a 0)), (1, .int x1), (2, .int x2), (3, .int x3), (5, .int x5), (6, .int x6)] → K38 C x1 x2 x3 x5 x6 → W p l e (rmA 2 0 0) s m args below meth c H locs 0 0 (MQ below ((QI D (wM cI cS a) post) A) args s 0 0 A) (F0 m 38 ls [])) {C : MS} {x1 : Int32} {x2 : Int32} {x3 : Int32} {x5 : Int32} {x6 : Int32} {H : Heap} {locs : List Loc} {ls : Array Slot} (hH : HX D (wM cI cS a C) A s.heap H locs) (hl : lv_has ls 12 [(0, .ref (a 0)), (1, .int x1), (2, .int x2), (3, .int x3), (5, .int x5), (6, .int x6)]) (h : w_X4_find_38b post K38 C x1 x2 x3 x5 x6) : W p l e (rmA 2 0 0) s m args below meth c H locs 0 0 (MQ below ((QI D (wM cI cS a) post) A) args s 0 0 A) (F0 m 38 ls []) := by
  have hx := E.1
  have hb := E.2.1
  unfold w_X4_find_38b at h
  refine lv_iload hx hb dX4_find_38 (lv_at hl 5 rfl) ?_
  refine lv_aload_n hx hb dX4_find_40 rfl (lv_at hl 0 rfl) ?_
  refine x_get (ci := 4) (CN := RX4) (T := TX4) (N := 20) E in_X4 hH 0 wM_g0 rfl 18 (by decide) kf_X4_58 rfl dX4_find_41 ?_
  refine lv_iload hx hb dX4_find_44 (lv_at hl 4 rfl) ?_
  obtain ⟨hi6, h⟩ := h
  refine x_iald E hH 15 0 wM_g18 rfl hi6 dX4_find_46 ?_
  refine lv_icmp_lt (tgt := 68) hx hb dX4_find_47 (by decide) (fun hc => ?_) (fun hc => ?_)
  · have h := h.1 hc
    refine lv_aload_n hx hb dX4_find_68 rfl (lv_at hl 0 rfl) ?_
    refine lv_aload_n hx hb dX4_find_69 rfl (lv_at hl 0 rfl) ?_
    refine lv_iload_n hx hb dX4_find_70 rfl (lv_at hl 1 rfl) ?_
    refine x_ci (x_runV (As := [.int x1]) (rest := [.ref (a 0)]) E (c_X4_bits h) yk_X4_bits yi_X4_bits km_X4_122 ⟨Nat.le_of_ble_eq_true rfl, Nat.le_of_ble_eq_true rfl⟩ ⟨Nat.le_of_ble_eq_true rfl, Nat.le_of_ble_eq_true rfl⟩ hH (va_recv E.2.2.2.2.2.1 hH.1 (ci := 4) (q0 := 0) rfl wM_g0) hl.1 rfl rfl (lv_room (Nat.le_of_ble_eq_true rfl)) dX4_find_71) hH (fun r8 C7 H locs h hH => ?_)
    refine x_puti (ci := 4) (CN := RX4) (T := TX4) (N := 20) E in_X4 tyX4 tyX4_ok nmX4 hH 0 wM_g0 rfl 14 (by decide) kf_X4_138 rfl (by decide +kernel) (Nat.le_of_ble_eq_true rfl) wM_z14 dX4_find_74 (fun H locs hH => ?_)
    refine lv_iconst (v := (0 : Int32)) hx hb dX4_find_77 (by decide) ?_
    refine lv_istore (lv' := [(7, .int (0 : Int32)), (0, .ref (a 0)), (1, .int x1), (2, .int x2), (3, .int x3), (5, .int x5), (6, .int x6)]) hx hb dX4_find_78 hl (by decide) rfl (fun ls hl => ?_)
    obtain ⟨n, h⟩ := h
    exact k_X4_find_80 E  n hH (lv_sub hl [1, 2, 3, 4, 5, 0] rfl) h
  · have h := h.2 hc
    refine lv_iload hx hb dX4_find_50 (lv_at hl 5 rfl) ?_
    refine lv_aload_n hx hb dX4_find_52 rfl (lv_at hl 0 rfl) ?_
    refine x_get (ci := 4) (CN := RX4) (T := TX4) (N := 20) E in_X4 hH 0 wM_g0 rfl 18 (by decide) kf_X4_58 rfl dX4_find_53 ?_
    refine lv_iload hx hb dX4_find_56 (lv_at hl 4 rfl) ?_
    refine x_iald E hH 15 0 wM_g18 rfl hi6 dX4_find_58 ?_
    refine lv_isub hx hb dX4_find_59 ?_
    refine lv_istore (lv' := [(6, .int (x6 - ((mr C 18) (Int32.toNatClampNeg x5)))), (0, .ref (a 0)), (1, .int x1), (2, .int x2), (3, .int x3), (5, .int x5)]) hx hb dX4_find_60 hl (by decide) rfl (fun ls hl => ?_)
    refine lv_iinc (v := (x5 + 1)) (lv' := [(5, .int (x5 + 1)), (6, .int (x6 - ((mr C 18) (Int32.toNatClampNeg x5)))), (0, .ref (a 0)), (1, .int x1), (2, .int x2), (3, .int x3)]) hx hb dX4_find_62 hl (k := 5) rfl rfl (by decide) rfl (fun ls hl => ?_)
    refine lv_goto (tgt := 38) hx hb dX4_find_65 (by decide) ?_
    exact hK38 _ _ _ _ _ _ _ _ _ hH (lv_sub hl [2, 3, 4, 5, 0, 1] rfl) h
theorem k_X4_find_38 {post : Int32 → MS → Prop} (E : Cx p s m args meth c cX4_find 12 RX4 (some .int) D (tyW cI cS cO))  (n : Nat) : ∀ {C : MS} {x1 : Int32} {x2 : Int32} {x3 : Int32} {x5 : Int32} {x6 : Int32} {H : Heap} {locs : List Loc} {ls : Array Slot} (hH : HX D (wM cI cS a C) A s.heap H locs) (hl : lv_has ls 12 [(0, .ref (a 0)), (1, .int x1), (2, .int x2), (3, .int x3), (5, .int x5), (6, .int x6)]) (h : w_X4_find_38 post n C x1 x2 x3 x5 x6), W p l e (rmA 2 0 0) s m args below meth c H locs 0 0 (MQ below ((QI D (wM cI cS a) post) A) args s 0 0 A) (F0 m 38 ls []) := by
  induction n with
  | zero => intros; contradiction
  | succ n ih => intro C x1 x2 x3 x5 x6 H locs ls hH hl h; exact k_X4_find_38b E  (fun C x1 x2 x3 x5 x6 H locs ls hH hl h => ih hH hl h) hH hl h
set_option maxHeartbeats 4000000 in
set_option maxRecDepth 100000 in
theorem k_X4_find_13 {post : Int32 → MS → Prop} (E : Cx p s m args meth c cX4_find 12 RX4 (some .int) D (tyW cI cS cO))  {C : MS}  {H : Heap} {locs : List Loc} {ls : Array Slot} (hH : HX D (wM cI cS a C) A s.heap H locs) (hl : lv_has ls 12 [(0, .ref (a 0))]) (h : w_X4_find_13 post C ) : W p l e (rmA 2 0 0) s m args below meth c H locs 0 0 (MQ below ((QI D (wM cI cS a) post) A) args s 0 0 A) (F0 m 13 ls []) := by
  have hx := E.1
  have hb := E.2.1
  unfold w_X4_find_13 at h
  refine lv_aload_n hx hb dX4_find_13 rfl (lv_at hl 0 rfl) ?_
  refine lv_bipush (v := (-6 : Int32)) hx hb dX4_find_14 (by decide) ?_
  refine x_ci (x_runV (As := [.int (-6 : Int32)]) (rest := []) E (c_X4_answer h) yk_X4_answer yi_X4_answer km_X4_86 ⟨Nat.le_of_ble_eq_true rfl, Nat.le_of_ble_eq_true rfl⟩ ⟨Nat.le_of_ble_eq_true rfl, Nat.le_of_ble_eq_true rfl⟩ hH (va_recv E.2.2.2.2.2.1 hH.1 (ci := 4) (q0 := 0) rfl wM_g0) hl.1 rfl rfl (lv_room (Nat.le_of_ble_eq_true rfl)) dX4_find_16) hH (fun r5 C4 H locs h hH => ?_)
  exact x_iret E hH h dX4_find_19
set_option maxHeartbeats 4000000 in
set_option maxRecDepth 100000 in
theorem c_X4_find {l : Launch} {D : va_G} {cI cS cO : ClassId} {a : Nat → Nat} {C : MS} {x1 : Int32} {x2 : Int32} {x3 : Int32} {x4 : Int32} {post : Int32 → MS → Prop} (h : w_X4_find post C x1 x2 x3 x4) : MetX l D (tyW cI cS cO) yX4_find cX4_find 12 (some .int) 2 0 0 [.ref (a 0), .int x1, .int x2, .int x3, .int x4] (wM cI cS a C) (QI D (wM cI cS a) post) := by
  refine x_ent (by decide) (Nat.le_of_ble_eq_true rfl) ?_
  intro p e s m below meth c ls E _ hH hl
  have hx := E.1
  have hb := E.2.1
  generalize va_A (wM cI cS a C) s.heap.size = A at hH ⊢
  have hl : lv_has ls 12 [(0, .ref (a 0)), (1, .int x1), (2, .int x2), (3, .int x3), (4, .int x4)] := hl
  unfold w_X4_find at h
  refine lv_iload hx hb dX4_find_0 (lv_at hl 4 rfl) ?_
  refine lv_if_lt (tgt := 13) hx hb dX4_find_2 (by decide) (fun hc => ?_) (fun hc => ?_)
  · have h := h.1 hc
    exact k_X4_find_13 E  hH (lv_sub hl [0] rfl) h
  · have h := h.2 hc
    refine lv_iload hx hb dX4_find_5 (lv_at hl 4 rfl) ?_
    refine lv_iload_n hx hb dX4_find_7 rfl (lv_at hl 3 rfl) ?_
    refine lv_iload_n hx hb dX4_find_8 rfl (lv_at hl 2 rfl) ?_
    refine lv_isub hx hb dX4_find_9 ?_
    refine lv_icmp_lt (tgt := 20) hx hb dX4_find_10 (by decide) (fun hc => ?_) (fun hc => ?_)
    · have h := h.1 hc
      refine lv_aload_n hx hb dX4_find_20 rfl (lv_at hl 0 rfl) ?_
      refine lv_iload_n hx hb dX4_find_21 rfl (lv_at hl 1 rfl) ?_
      refine lv_iload_n hx hb dX4_find_22 rfl (lv_at hl 2 rfl) ?_
      refine lv_iload_n hx hb dX4_find_23 rfl (lv_at hl 3 rfl) ?_
      refine lv_aload_n hx hb dX4_find_24 rfl (lv_at hl 0 rfl) ?_
      refine x_get (ci := 4) (CN := RX4) (T := TX4) (N := 20) E in_X4 hH 0 wM_g0 rfl 18 (by decide) kf_X4_58 rfl dX4_find_25 ?_
      refine x_cv (x_runV (As := [.int x1, .int x2, .int x3, .ref (a 18)]) (rest := []) E (c_X4_count18 h) yk_X4_count yi_X4_count km_X4_134 ⟨Nat.le_of_ble_eq_true rfl, Nat.le_of_ble_eq_true rfl⟩ ⟨Nat.le_of_ble_eq_true rfl, Nat.le_of_ble_eq_true rfl⟩ hH (va_recv E.2.2.2.2.2.1 hH.1 (ci := 4) (q0 := 0) rfl wM_g0) hl.1 rfl rfl (lv_room (Nat.le_of_ble_eq_true rfl)) dX4_find_28) hH (fun C1 H locs h hH => ?_)
      refine lv_iconst (v := (0 : Int32)) hx hb dX4_find_31 (by decide) ?_
      refine lv_istore (lv' := [(5, .int (0 : Int32)), (0, .ref (a 0)), (1, .int x1), (2, .int x2), (3, .int x3), (4, .int x4)]) hx hb dX4_find_32 hl (by decide) rfl (fun ls hl => ?_)
      refine lv_iload hx hb dX4_find_34 (lv_at hl 5 rfl) ?_
      refine lv_istore (lv' := [(6, .int x4), (5, .int (0 : Int32)), (0, .ref (a 0)), (1, .int x1), (2, .int x2), (3, .int x3), (4, .int x4)]) hx hb dX4_find_36 hl (by decide) rfl (fun ls hl => ?_)
      obtain ⟨n, h⟩ := h
      exact k_X4_find_38 E  n hH (lv_sub hl [2, 3, 4, 5, 1, 0] rfl) h
    · have h := h.2 hc
      exact k_X4_find_13 E  hH (lv_sub hl [0] rfl) h
set_option maxHeartbeats 4000000 in
set_option maxRecDepth 100000 in
theorem c_X4_kth {l : Launch} {D : va_G} {cI cS cO : ClassId} {a : Nat → Nat} {C : MS} {x1 : Int32} {x2 : Int32} {x3 : Int32} {x4 : Int32} {post : Int32 → MS → Prop} (h : w_X4_kth post C x1 x2 x3 x4) : MetX l D (tyW cI cS cO) yX4_kth cX4_kth 6 (some .int) 4 0 0 [.ref (a 0), .int x1, .int x2, .int x3, .int x4] (wM cI cS a C) (QI D (wM cI cS a) post) := by
  refine x_ent (by decide) (Nat.le_of_ble_eq_true rfl) ?_
  intro p e s m below meth c ls E _ hH hl
  have hx := E.1
  have hb := E.2.1
  generalize va_A (wM cI cS a C) s.heap.size = A at hH ⊢
  have hl : lv_has ls 6 [(0, .ref (a 0)), (1, .int x1), (2, .int x2), (3, .int x3), (4, .int x4)] := hl
  unfold w_X4_kth at h
  refine lv_aload_n hx hb dX4_kth_0 rfl (lv_at hl 0 rfl) ?_
  refine lv_iload_n hx hb dX4_kth_1 rfl (lv_at hl 1 rfl) ?_
  refine lv_iload_n hx hb dX4_kth_2 rfl (lv_at hl 2 rfl) ?_
  refine lv_iload_n hx hb dX4_kth_3 rfl (lv_at hl 3 rfl) ?_
  refine x_ci (x_runV (As := [.int x1, .int x2, .int x3]) (rest := []) E (c_X4_lookSpan h) yk_X4_lookSpan yi_X4_lookSpan km_X4_99 ⟨Nat.le_of_ble_eq_true rfl, Nat.le_of_ble_eq_true rfl⟩ ⟨Nat.le_of_ble_eq_true rfl, Nat.le_of_ble_eq_true rfl⟩ hH (va_recv E.2.2.2.2.2.1 hH.1 (ci := 4) (q0 := 0) rfl wM_g0) hl.1 rfl rfl (lv_room (Nat.le_of_ble_eq_true rfl)) dX4_kth_4) hH (fun r2 C1 H locs h hH => ?_)
  refine lv_istore (lv' := [(5, .int r2), (0, .ref (a 0)), (1, .int x1), (2, .int x2), (3, .int x3), (4, .int x4)]) hx hb dX4_kth_7 hl (by decide) rfl (fun ls hl => ?_)
  refine lv_iload hx hb dX4_kth_9 (lv_at hl 0 rfl) ?_
  refine lv_if_ge (tgt := 23) hx hb dX4_kth_11 (by decide) (fun hc => ?_) (fun hc => ?_)
  · have h := h.1 hc
    refine lv_aload_n hx hb dX4_kth_23 rfl (lv_at hl 1 rfl) ?_
    refine lv_iload_n hx hb dX4_kth_24 rfl (lv_at hl 2 rfl) ?_
    refine lv_iload_n hx hb dX4_kth_25 rfl (lv_at hl 3 rfl) ?_
    refine lv_iload_n hx hb dX4_kth_26 rfl (lv_at hl 4 rfl) ?_
    refine lv_iload hx hb dX4_kth_27 (lv_at hl 5 rfl) ?_
    refine x_ci (x_runV (As := [.int x1, .int x2, .int x3, .int x4]) (rest := []) E (c_X4_find h) yk_X4_find yi_X4_find km_X4_141 ⟨Nat.le_of_ble_eq_true rfl, Nat.le_of_ble_eq_true rfl⟩ ⟨Nat.le_of_ble_eq_true rfl, Nat.le_of_ble_eq_true rfl⟩ hH (va_recv E.2.2.2.2.2.1 hH.1 (ci := 4) (q0 := 0) rfl wM_g0) hl.1 rfl rfl (lv_room (Nat.le_of_ble_eq_true rfl)) dX4_kth_29) hH (fun r4 C3 H locs h hH => ?_)
    exact x_iret E hH h dX4_kth_32
  · have h := h.2 hc
    refine lv_aload_n hx hb dX4_kth_14 rfl (lv_at hl 1 rfl) ?_
    refine lv_iload hx hb dX4_kth_15 (lv_at hl 0 rfl) ?_
    refine x_ci (x_runV (As := [.int r2]) (rest := []) E (c_X4_answer h) yk_X4_answer yi_X4_answer km_X4_86 ⟨Nat.le_of_ble_eq_true rfl, Nat.le_of_ble_eq_true rfl⟩ ⟨Nat.le_of_ble_eq_true rfl, Nat.le_of_ble_eq_true rfl⟩ hH (va_recv E.2.2.2.2.2.1 hH.1 (ci := 4) (q0 := 0) rfl wM_g0) hl.1 rfl rfl (lv_room (Nat.le_of_ble_eq_true rfl)) dX4_kth_17) hH (fun r6 C5 H locs h hH => ?_)
    refine lv_goto (tgt := 32) hx hb dX4_kth_20 (by decide) ?_
    exact x_iret E hH h dX4_kth_32
set_option maxHeartbeats 4000000 in
set_option maxRecDepth 100000 in
theorem k_X4_within_47 {post : Int32 → MS → Prop} (E : Cx p s m args meth c cX4_within 10 RX4 (some .int) D (tyW cI cS cO)) {K6 : MS → Int32 → Int32 → Int64 → Int64 → Int32 → Int32 → Prop} (hK6 : ∀ (C : MS) (x1 : Int32) (x3 : Int32) (y4 : Int64) (y6 : Int64) (x8 : Int32) (x9 : Int32) (H : Heap) (locs : List Loc) (ls : Array Slot), HX D (wM cI cS a C) A s.heap H locs → lv_has ls 10 [(0, .ref (a 0)), (1, .int x1), (3, .int x3), (4, .long y4), (6, .long y6), (8, .int x8), (9, .int x9)] → K6 C x1 x3 y4 y6 x8 x9 → W p l e (rmA 1 0 0) s m args below meth c H locs 0 0 (MQ below ((QI D (wM cI cS a) post) A) args s 0 0 A) (F0 m 6 ls [])) {C : MS} {x1 : Int32} {x3 : Int32} {y4 : Int64} {y6 : Int64} {x9 : Int32} {s0 : Int32} {s1 : Int32} {H : Heap} {locs : List Loc} {ls : Array Slot} (hH : HX D (wM cI cS a C) A s.heap H locs) (hl : lv_has ls 10 [(0, .ref (a 0)), (1, .int x1), (3, .int x3), (4, .long y4), (6, .long y6), (9, .int x9)]) (h : w_X4_within_47 post K6 C x1 x3 y4 y6 x9 s0 s1) : W p l e (rmA 1 0 0) s m args below meth c H locs 0 0 (MQ below ((QI D (wM cI cS a) post) A) args s 0 0 A) (F0 m 47 ls [.int s0, .int s1]) := by
  have hx := E.1
  have hb := E.2.1
  unfold w_X4_within_47 at h
  refine lv_iadd hx hb dX4_within_47 ?_
  refine lv_istore (lv' := [(8, .int (s1 + s0)), (0, .ref (a 0)), (1, .int x1), (3, .int x3), (4, .long y4), (6, .long y6), (9, .int x9)]) hx hb dX4_within_48 hl (by decide) rfl (fun ls hl => ?_)
  refine lv_iinc (v := (x9 + 1)) (lv' := [(9, .int (x9 + 1)), (8, .int (s1 + s0)), (0, .ref (a 0)), (1, .int x1), (3, .int x3), (4, .long y4), (6, .long y6)]) hx hb dX4_within_50 hl (k := 6) rfl rfl (by decide) rfl (fun ls hl => ?_)
  refine lv_goto (tgt := 6) hx hb dX4_within_53 (by decide) ?_
  exact hK6 _ _ _ _ _ _ _ _ _ _ hH (lv_sub hl [2, 3, 4, 5, 6, 1, 0] rfl) h
set_option maxHeartbeats 4000000 in
set_option maxRecDepth 100000 in
theorem k_X4_within_46 {post : Int32 → MS → Prop} (E : Cx p s m args meth c cX4_within 10 RX4 (some .int) D (tyW cI cS cO)) {K6 : MS → Int32 → Int32 → Int64 → Int64 → Int32 → Int32 → Prop} (hK6 : ∀ (C : MS) (x1 : Int32) (x3 : Int32) (y4 : Int64) (y6 : Int64) (x8 : Int32) (x9 : Int32) (H : Heap) (locs : List Loc) (ls : Array Slot), HX D (wM cI cS a C) A s.heap H locs → lv_has ls 10 [(0, .ref (a 0)), (1, .int x1), (3, .int x3), (4, .long y4), (6, .long y6), (8, .int x8), (9, .int x9)] → K6 C x1 x3 y4 y6 x8 x9 → W p l e (rmA 1 0 0) s m args below meth c H locs 0 0 (MQ below ((QI D (wM cI cS a) post) A) args s 0 0 A) (F0 m 6 ls [])) {C : MS} {x1 : Int32} {x3 : Int32} {y4 : Int64} {y6 : Int64} {x9 : Int32} {s0 : Int32} {H : Heap} {locs : List Loc} {ls : Array Slot} (hH : HX D (wM cI cS a C) A s.heap H locs) (hl : lv_has ls 10 [(0, .ref (a 0)), (1, .int x1), (3, .int x3), (4, .long y4), (6, .long y6), (9, .int x9)]) (h : w_X4_within_46 post K6 C x1 x3 y4 y6 x9 s0) : W p l e (rmA 1 0 0) s m args below meth c H locs 0 0 (MQ below ((QI D (wM cI cS a) post) A) args s 0 0 A) (F0 m 46 ls [.int s0]) := by
  have hx := E.1
  have hb := E.2.1
  unfold w_X4_within_46 at h
  refine lv_iconst (v := (0 : Int32)) hx hb dX4_within_46 (by decide) ?_
  exact k_X4_within_47 E hK6 hH (lv_sub hl [0, 1, 2, 3, 4, 5] rfl) h
set_option maxHeartbeats 4000000 in
set_option maxRecDepth 100000 in
theorem k_X4_within_6b {post : Int32 → MS → Prop} (E : Cx p s m args meth c cX4_within 10 RX4 (some .int) D (tyW cI cS cO))  {K6 : MS → Int32 → Int32 → Int64 → Int64 → Int32 → Int32 → Prop} (hK6 : ∀ (C : MS) (x1 : Int32) (x3 : Int32) (y4 : Int64) (y6 : Int64) (x8 : Int32) (x9 : Int32) (H : Heap) (locs : List Loc) (ls : Array Slot), HX D (wM cI cS a C) A s.heap H locs → lv_has ls 10 [(0, .ref (a 0)), (1, .int x1), (3, .int x3), (4, .long y4), (6, .long y6), (8, .int x8), (9, .int x9)] → K6 C x1 x3 y4 y6 x8 x9 → W p l e (rmA 1 0 0) s m args below meth c H locs 0 0 (MQ below ((QI D (wM cI cS a) post) A) args s 0 0 A) (F0 m 6 ls [])) {C : MS} {x1 : Int32} {x3 : Int32} {y4 : Int64} {y6 : Int64} {x8 : Int32} {x9 : Int32} {H : Heap} {locs : List Loc} {ls : Array Slot} (hH : HX D (wM cI cS a C) A s.heap H locs) (hl : lv_has ls 10 [(0, .ref (a 0)), (1, .int x1), (3, .int x3), (4, .long y4), (6, .long y6), (8, .int x8), (9, .int x9)]) (h : w_X4_within_6b post K6 C x1 x3 y4 y6 x8 x9) : W p l e (rmA 1 0 0) s m args below meth c H locs 0 0 (MQ below ((QI D (wM cI cS a) post) A) args s 0 0 A) (F0 m 6 ls []) := by
  have hx := E.1
  have hb := E.2.1
  unfold w_X4_within_6b at h
  refine lv_iload hx hb dX4_within_6 (lv_at hl 6 rfl) ?_
  refine lv_iload_n hx hb dX4_within_8 rfl (lv_at hl 2 rfl) ?_
  refine lv_icmp_ge (tgt := 56) hx hb dX4_within_9 (by decide) (fun hc => ?_) (fun hc => ?_)
  · have h := h.1 hc
    refine lv_iload hx hb dX4_within_56 (lv_at hl 5 rfl) ?_
    exact x_iret E hH h dX4_within_58
  · have h := h.2 hc
    refine lv_iload hx hb dX4_within_12 (lv_at hl 5 rfl) ?_
    refine lv_aload_n hx hb dX4_within_14 rfl (lv_at hl 0 rfl) ?_
    refine lv_iload_n hx hb dX4_within_15 rfl (lv_at hl 1 rfl) ?_
    refine lv_iload hx hb dX4_within_16 (lv_at hl 6 rfl) ?_
    refine x_ci (x_runV (As := [.int x1, .int x9]) (rest := [.int x8]) E (c_X4_valueAt h) yk_X4_valueAt yi_X4_valueAt km_X4_103 ⟨Nat.le_of_ble_eq_true rfl, Nat.le_of_ble_eq_true rfl⟩ ⟨Nat.le_of_ble_eq_true rfl, Nat.le_of_ble_eq_true rfl⟩ hH (va_recv E.2.2.2.2.2.1 hH.1 (ci := 4) (q0 := 0) rfl wM_g0) hl.1 rfl rfl (lv_room (Nat.le_of_ble_eq_true rfl)) dX4_within_18) hH (fun r3 C2 H locs h hH => ?_)
    refine lv_i2l hx hb dX4_within_21 rfl ?_
    refine lv_lload hx hb dX4_within_22 (lv_at hl 3 rfl) ?_
    refine W.lcmp hx hb dX4_within_24 ?_
    refine lv_if_lt (tgt := 46) hx hb dX4_within_25 (by decide) (fun hc => ?_) (fun hc => ?_)
    · have h := h.1 hc
      exact k_X4_within_46 E hK6 hH (lv_sub hl [0, 1, 2, 3, 4, 6] rfl) h
    · have h := h.2 hc
      refine lv_aload_n hx hb dX4_within_28 rfl (lv_at hl 0 rfl) ?_
      refine lv_iload_n hx hb dX4_within_29 rfl (lv_at hl 1 rfl) ?_
      refine lv_iload hx hb dX4_within_30 (lv_at hl 6 rfl) ?_
      refine x_ci (x_runV (As := [.int x1, .int x9]) (rest := [.int x8]) E (c_X4_valueAt h) yk_X4_valueAt yi_X4_valueAt km_X4_103 ⟨Nat.le_of_ble_eq_true rfl, Nat.le_of_ble_eq_true rfl⟩ ⟨Nat.le_of_ble_eq_true rfl, Nat.le_of_ble_eq_true rfl⟩ hH (va_recv E.2.2.2.2.2.1 hH.1 (ci := 4) (q0 := 0) rfl wM_g0) hl.1 rfl rfl (lv_room (Nat.le_of_ble_eq_true rfl)) dX4_within_32) hH (fun r5 C4 H locs h hH => ?_)
      refine lv_i2l hx hb dX4_within_35 rfl ?_
      refine lv_lload hx hb dX4_within_36 (lv_at hl 4 rfl) ?_
      refine W.lcmp hx hb dX4_within_38 ?_
      refine lv_if_gt (tgt := 46) hx hb dX4_within_39 (by decide) (fun hc => ?_) (fun hc => ?_)
      · have h := h.1 hc
        exact k_X4_within_46 E hK6 hH (lv_sub hl [0, 1, 2, 3, 4, 6] rfl) h
      · have h := h.2 hc
        refine lv_iconst (v := (1 : Int32)) hx hb dX4_within_42 (by decide) ?_
        refine lv_goto (tgt := 47) hx hb dX4_within_43 (by decide) ?_
        exact k_X4_within_47 E hK6 hH (lv_sub hl [0, 1, 2, 3, 4, 6] rfl) h
theorem k_X4_within_6 {post : Int32 → MS → Prop} (E : Cx p s m args meth c cX4_within 10 RX4 (some .int) D (tyW cI cS cO))  (n : Nat) : ∀ {C : MS} {x1 : Int32} {x3 : Int32} {y4 : Int64} {y6 : Int64} {x8 : Int32} {x9 : Int32} {H : Heap} {locs : List Loc} {ls : Array Slot} (hH : HX D (wM cI cS a C) A s.heap H locs) (hl : lv_has ls 10 [(0, .ref (a 0)), (1, .int x1), (3, .int x3), (4, .long y4), (6, .long y6), (8, .int x8), (9, .int x9)]) (h : w_X4_within_6 post n C x1 x3 y4 y6 x8 x9), W p l e (rmA 1 0 0) s m args below meth c H locs 0 0 (MQ below ((QI D (wM cI cS a) post) A) args s 0 0 A) (F0 m 6 ls []) := by
  induction n with
  | zero => intros; contradiction
  | succ n ih => intro C x1 x3 y4 y6 x8 x9 H locs ls hH hl h; exact k_X4_within_6b E  (fun C x1 x3 y4 y6 x8 x9 H locs ls hH hl h => ih hH hl h) hH hl h
set_option maxHeartbeats 4000000 in
set_option maxRecDepth 100000 in
theorem c_X4_within {l : Launch} {D : va_G} {cI cS cO : ClassId} {a : Nat → Nat} {C : MS} {x1 : Int32} {x2 : Int32} {x3 : Int32} {y4 : Int64} {y6 : Int64} {post : Int32 → MS → Prop} (h : w_X4_within post C x1 x2 x3 y4 y6) : MetX l D (tyW cI cS cO) yX4_within cX4_within 10 (some .int) 1 0 0 [.ref (a 0), .int x1, .int x2, .int x3, .long y4, .long y6] (wM cI cS a C) (QI D (wM cI cS a) post) := by
  refine x_ent (by decide) (Nat.le_of_ble_eq_true rfl) ?_
  intro p e s m below meth c ls E _ hH hl
  have hx := E.1
  have hb := E.2.1
  generalize va_A (wM cI cS a C) s.heap.size = A at hH ⊢
  have hl : lv_has ls 10 [(0, .ref (a 0)), (1, .int x1), (2, .int x2), (3, .int x3), (4, .long y4), (6, .long y6)] := hl
  unfold w_X4_within at h
  refine lv_iconst (v := (0 : Int32)) hx hb dX4_within_0 (by decide) ?_
  refine lv_istore (lv' := [(8, .int (0 : Int32)), (0, .ref (a 0)), (1, .int x1), (2, .int x2), (3, .int x3), (4, .long y4), (6, .long y6)]) hx hb dX4_within_1 hl (by decide) rfl (fun ls hl => ?_)
  refine lv_iload_n hx hb dX4_within_3 rfl (lv_at hl 3 rfl) ?_
  refine lv_istore (lv' := [(9, .int x2), (8, .int (0 : Int32)), (0, .ref (a 0)), (1, .int x1), (2, .int x2), (3, .int x3), (4, .long y4), (6, .long y6)]) hx hb dX4_within_4 hl (by decide) rfl (fun ls hl => ?_)
  obtain ⟨n, h⟩ := h
  exact k_X4_within_6 E  n hH (lv_sub hl [2, 3, 5, 6, 7, 1, 0] rfl) h
set_option maxHeartbeats 4000000 in
set_option maxRecDepth 100000 in
theorem c_X4_rank {l : Launch} {D : va_G} {cI cS cO : ClassId} {a : Nat → Nat} {C : MS} {x1 : Int32} {x2 : Int32} {x3 : Int32} {x4 : Int32} {post : Int32 → MS → Prop} (h : w_X4_rank post C x1 x2 x3 x4) : MetX l D (tyW cI cS cO) yX4_rank cX4_rank 6 (some .int) 3 0 0 [.ref (a 0), .int x1, .int x2, .int x3, .int x4] (wM cI cS a C) (QI D (wM cI cS a) post) := by
  refine x_ent (by decide) (Nat.le_of_ble_eq_true rfl) ?_
  intro p e s m below meth c ls E _ hH hl
  have hx := E.1
  have hb := E.2.1
  generalize va_A (wM cI cS a C) s.heap.size = A at hH ⊢
  have hl : lv_has ls 6 [(0, .ref (a 0)), (1, .int x1), (2, .int x2), (3, .int x3), (4, .int x4)] := hl
  unfold w_X4_rank at h
  refine lv_aload_n hx hb dX4_rank_0 rfl (lv_at hl 0 rfl) ?_
  refine lv_iload_n hx hb dX4_rank_1 rfl (lv_at hl 1 rfl) ?_
  refine lv_iload_n hx hb dX4_rank_2 rfl (lv_at hl 2 rfl) ?_
  refine lv_iload_n hx hb dX4_rank_3 rfl (lv_at hl 3 rfl) ?_
  refine x_ci (x_runV (As := [.int x1, .int x2, .int x3]) (rest := []) E (c_X4_lookSpan h) yk_X4_lookSpan yi_X4_lookSpan km_X4_99 ⟨Nat.le_of_ble_eq_true rfl, Nat.le_of_ble_eq_true rfl⟩ ⟨Nat.le_of_ble_eq_true rfl, Nat.le_of_ble_eq_true rfl⟩ hH (va_recv E.2.2.2.2.2.1 hH.1 (ci := 4) (q0 := 0) rfl wM_g0) hl.1 rfl rfl (lv_room (Nat.le_of_ble_eq_true rfl)) dX4_rank_4) hH (fun r2 C1 H locs h hH => ?_)
  refine lv_istore (lv' := [(5, .int r2), (0, .ref (a 0)), (1, .int x1), (2, .int x2), (3, .int x3), (4, .int x4)]) hx hb dX4_rank_7 hl (by decide) rfl (fun ls hl => ?_)
  refine lv_iload hx hb dX4_rank_9 (lv_at hl 0 rfl) ?_
  refine lv_if_ge (tgt := 23) hx hb dX4_rank_11 (by decide) (fun hc => ?_) (fun hc => ?_)
  · have h := h.1 hc
    refine lv_aload_n hx hb dX4_rank_23 rfl (lv_at hl 1 rfl) ?_
    refine lv_iload_n hx hb dX4_rank_24 rfl (lv_at hl 2 rfl) ?_
    refine lv_iload_n hx hb dX4_rank_25 rfl (lv_at hl 3 rfl) ?_
    refine lv_iload_n hx hb dX4_rank_26 rfl (lv_at hl 4 rfl) ?_
    refine lv_ldc2 (v := (-9223372036854775808 : Int64)) hx hb E.2.2.2.1 (E.2.2.2.2.1 _ kc_X4_147) dX4_rank_27 ?_
    refine lv_iload hx hb dX4_rank_30 (lv_at hl 5 rfl) ?_
    refine lv_i2l hx hb dX4_rank_32 rfl ?_
    refine lv_lconst (v := (1 : Int64)) hx hb dX4_rank_33 (by decide) ?_
    refine lv_lsub hx hb dX4_rank_34 ?_
    refine x_ci (x_runV (As := [.int x1, .int x2, .int x3, .long (-9223372036854775808 : Int64), .long ((Int32.toInt64 x4) - (1 : Int64))]) (rest := []) E (c_X4_within h) yk_X4_within yi_X4_within km_X4_149 ⟨Nat.le_of_ble_eq_true rfl, Nat.le_of_ble_eq_true rfl⟩ ⟨Nat.le_of_ble_eq_true rfl, Nat.le_of_ble_eq_true rfl⟩ hH (va_recv E.2.2.2.2.2.1 hH.1 (ci := 4) (q0 := 0) rfl wM_g0) hl.1 rfl rfl (lv_room (Nat.le_of_ble_eq_true rfl)) dX4_rank_35) hH (fun r4 C3 H locs h hH => ?_)
    exact x_iret E hH h dX4_rank_38
  · have h := h.2 hc
    refine lv_aload_n hx hb dX4_rank_14 rfl (lv_at hl 1 rfl) ?_
    refine lv_iload hx hb dX4_rank_15 (lv_at hl 0 rfl) ?_
    refine x_ci (x_runV (As := [.int r2]) (rest := []) E (c_X4_answer h) yk_X4_answer yi_X4_answer km_X4_86 ⟨Nat.le_of_ble_eq_true rfl, Nat.le_of_ble_eq_true rfl⟩ ⟨Nat.le_of_ble_eq_true rfl, Nat.le_of_ble_eq_true rfl⟩ hH (va_recv E.2.2.2.2.2.1 hH.1 (ci := 4) (q0 := 0) rfl wM_g0) hl.1 rfl rfl (lv_room (Nat.le_of_ble_eq_true rfl)) dX4_rank_17) hH (fun r6 C5 H locs h hH => ?_)
    refine lv_goto (tgt := 38) hx hb dX4_rank_20 (by decide) ?_
    exact x_iret E hH h dX4_rank_38
set_option maxHeartbeats 4000000 in
set_option maxRecDepth 100000 in
theorem c_X4_between {l : Launch} {D : va_G} {cI cS cO : ClassId} {a : Nat → Nat} {C : MS} {x1 : Int32} {x2 : Int32} {x3 : Int32} {x4 : Int32} {x5 : Int32} {post : Int32 → MS → Prop} (h : w_X4_between post C x1 x2 x3 x4 x5) : MetX l D (tyW cI cS cO) yX4_between cX4_between 7 (some .int) 3 0 0 [.ref (a 0), .int x1, .int x2, .int x3, .int x4, .int x5] (wM cI cS a C) (QI D (wM cI cS a) post) := by
  refine x_ent (by decide) (Nat.le_of_ble_eq_true rfl) ?_
  intro p e s m below meth c ls E _ hH hl
  have hx := E.1
  have hb := E.2.1
  generalize va_A (wM cI cS a C) s.heap.size = A at hH ⊢
  have hl : lv_has ls 7 [(0, .ref (a 0)), (1, .int x1), (2, .int x2), (3, .int x3), (4, .int x4), (5, .int x5)] := hl
  unfold w_X4_between at h
  refine lv_aload_n hx hb dX4_between_0 rfl (lv_at hl 0 rfl) ?_
  refine lv_iload_n hx hb dX4_between_1 rfl (lv_at hl 1 rfl) ?_
  refine lv_iload_n hx hb dX4_between_2 rfl (lv_at hl 2 rfl) ?_
  refine lv_iload_n hx hb dX4_between_3 rfl (lv_at hl 3 rfl) ?_
  refine x_ci (x_runV (As := [.int x1, .int x2, .int x3]) (rest := []) E (c_X4_lookSpan h) yk_X4_lookSpan yi_X4_lookSpan km_X4_99 ⟨Nat.le_of_ble_eq_true rfl, Nat.le_of_ble_eq_true rfl⟩ ⟨Nat.le_of_ble_eq_true rfl, Nat.le_of_ble_eq_true rfl⟩ hH (va_recv E.2.2.2.2.2.1 hH.1 (ci := 4) (q0 := 0) rfl wM_g0) hl.1 rfl rfl (lv_room (Nat.le_of_ble_eq_true rfl)) dX4_between_4) hH (fun r2 C1 H locs h hH => ?_)
  refine lv_istore (lv' := [(6, .int r2), (0, .ref (a 0)), (1, .int x1), (2, .int x2), (3, .int x3), (4, .int x4), (5, .int x5)]) hx hb dX4_between_7 hl (by decide) rfl (fun ls hl => ?_)
  refine lv_iload hx hb dX4_between_9 (lv_at hl 0 rfl) ?_
  refine lv_if_ge (tgt := 23) hx hb dX4_between_11 (by decide) (fun hc => ?_) (fun hc => ?_)
  · have h := h.1 hc
    refine lv_aload_n hx hb dX4_between_23 rfl (lv_at hl 1 rfl) ?_
    refine lv_iload_n hx hb dX4_between_24 rfl (lv_at hl 2 rfl) ?_
    refine lv_iload_n hx hb dX4_between_25 rfl (lv_at hl 3 rfl) ?_
    refine lv_iload_n hx hb dX4_between_26 rfl (lv_at hl 4 rfl) ?_
    refine lv_iload hx hb dX4_between_27 (lv_at hl 5 rfl) ?_
    refine lv_i2l hx hb dX4_between_29 rfl ?_
    refine lv_iload hx hb dX4_between_30 (lv_at hl 6 rfl) ?_
    refine lv_i2l hx hb dX4_between_32 rfl ?_
    refine x_ci (x_runV (As := [.int x1, .int x2, .int x3, .long (Int32.toInt64 x4), .long (Int32.toInt64 x5)]) (rest := []) E (c_X4_within h) yk_X4_within yi_X4_within km_X4_149 ⟨Nat.le_of_ble_eq_true rfl, Nat.le_of_ble_eq_true rfl⟩ ⟨Nat.le_of_ble_eq_true rfl, Nat.le_of_ble_eq_true rfl⟩ hH (va_recv E.2.2.2.2.2.1 hH.1 (ci := 4) (q0 := 0) rfl wM_g0) hl.1 rfl rfl (lv_room (Nat.le_of_ble_eq_true rfl)) dX4_between_33) hH (fun r4 C3 H locs h hH => ?_)
    exact x_iret E hH h dX4_between_36
  · have h := h.2 hc
    refine lv_aload_n hx hb dX4_between_14 rfl (lv_at hl 1 rfl) ?_
    refine lv_iload hx hb dX4_between_15 (lv_at hl 0 rfl) ?_
    refine x_ci (x_runV (As := [.int r2]) (rest := []) E (c_X4_answer h) yk_X4_answer yi_X4_answer km_X4_86 ⟨Nat.le_of_ble_eq_true rfl, Nat.le_of_ble_eq_true rfl⟩ ⟨Nat.le_of_ble_eq_true rfl, Nat.le_of_ble_eq_true rfl⟩ hH (va_recv E.2.2.2.2.2.1 hH.1 (ci := 4) (q0 := 0) rfl wM_g0) hl.1 rfl rfl (lv_room (Nat.le_of_ble_eq_true rfl)) dX4_between_17) hH (fun r6 C5 H locs h hH => ?_)
    refine lv_goto (tgt := 36) hx hb dX4_between_20 (by decide) ?_
    exact x_iret E hH h dX4_between_36
set_option maxHeartbeats 4000000 in
set_option maxRecDepth 100000 in
theorem k_X4_next_64 {post : Int32 → MS → Prop} (E : Cx p s m args meth c cX4_next 8 RX4 (some .int) D (tyW cI cS cO)) {K29 : MS → Int32 → Int32 → Int32 → Int32 → Int32 → Prop} (hK29 : ∀ (C : MS) (x1 : Int32) (x3 : Int32) (x4 : Int32) (x6 : Int32) (x7 : Int32) (H : Heap) (locs : List Loc) (ls : Array Slot), HX D (wM cI cS a C) A s.heap H locs → lv_has ls 8 [(0, .ref (a 0)), (1, .int x1), (3, .int x3), (4, .int x4), (6, .int x6), (7, .int x7)] → K29 C x1 x3 x4 x6 x7 → W p l e (rmA 3 0 0) s m args below meth c H locs 0 0 (MQ below ((QI D (wM cI cS a) post) A) args s 0 0 A) (F0 m 29 ls [])) {C : MS} {x1 : Int32} {x3 : Int32} {x4 : Int32} {x7 : Int32} {s0 : Int32} {H : Heap} {locs : List Loc} {ls : Array Slot} (hH : HX D (wM cI cS a C) A s.heap H locs) (hl : lv_has ls 8 [(0, .ref (a 0)), (1, .int x1), (3, .int x3), (4, .int x4), (7, .int x7)]) (h : w_X4_next_64 post K29 C x1 x3 x4 x7 s0) : W p l e (rmA 3 0 0) s m args below meth c H locs 0 0 (MQ below ((QI D (wM cI cS a) post) A) args s 0 0 A) (F0 m 64 ls [.int s0]) := by
  have hx := E.1
  have hb := E.2.1
  unfold w_X4_next_64 at h
  refine lv_istore (lv' := [(6, .int s0), (0, .ref (a 0)), (1, .int x1), (3, .int x3), (4, .int x4), (7, .int x7)]) hx hb dX4_next_64 hl (by decide) rfl (fun ls hl => ?_)
  refine lv_iinc (v := (x7 + 1)) (lv' := [(7, .int (x7 + 1)), (6, .int s0), (0, .ref (a 0)), (1, .int x1), (3, .int x3), (4, .int x4)]) hx hb dX4_next_66 hl (k := 5) rfl rfl (by decide) rfl (fun ls hl => ?_)
  refine lv_goto (tgt := 29) hx hb dX4_next_69 (by decide) ?_
  exact hK29 _ _ _ _ _ _ _ _ _ hH (lv_sub hl [2, 3, 4, 5, 1, 0] rfl) h
set_option maxHeartbeats 4000000 in
set_option maxRecDepth 100000 in
theorem k_X4_next_29b {post : Int32 → MS → Prop} (E : Cx p s m args meth c cX4_next 8 RX4 (some .int) D (tyW cI cS cO))  {K29 : MS → Int32 → Int32 → Int32 → Int32 → Int32 → Prop} (hK29 : ∀ (C : MS) (x1 : Int32) (x3 : Int32) (x4 : Int32) (x6 : Int32) (x7 : Int32) (H : Heap) (locs : List Loc) (ls : Array Slot), HX D (wM cI cS a C) A s.heap H locs → lv_has ls 8 [(0, .ref (a 0)), (1, .int x1), (3, .int x3), (4, .int x4), (6, .int x6), (7, .int x7)] → K29 C x1 x3 x4 x6 x7 → W p l e (rmA 3 0 0) s m args below meth c H locs 0 0 (MQ below ((QI D (wM cI cS a) post) A) args s 0 0 A) (F0 m 29 ls [])) {C : MS} {x1 : Int32} {x3 : Int32} {x4 : Int32} {x6 : Int32} {x7 : Int32} {H : Heap} {locs : List Loc} {ls : Array Slot} (hH : HX D (wM cI cS a C) A s.heap H locs) (hl : lv_has ls 8 [(0, .ref (a 0)), (1, .int x1), (3, .int x3), (4, .int x4), (6, .int x6), (7, .int x7)]) (h : w_X4_next_29b post K29 C x1 x3 x4 x6 x7) : W p l e (rmA 3 0 0) s m args below meth c H locs 0 0 (MQ below ((QI D (wM cI cS a) post) A) args s 0 0 A) (F0 m 29 ls []) := by
  have hx := E.1
  have hb := E.2.1
  unfold w_X4_next_29b at h
  refine lv_iload hx hb dX4_next_29 (lv_at hl 5 rfl) ?_
  refine lv_iload_n hx hb dX4_next_31 rfl (lv_at hl 2 rfl) ?_
  refine lv_icmp_ge (tgt := 72) hx hb dX4_next_32 (by decide) (fun hc => ?_) (fun hc => ?_)
  · have h := h.1 hc
    refine lv_iload hx hb dX4_next_72 (lv_at hl 4 rfl) ?_
    refine lv_sipush (v := (1024 : Int32)) hx hb dX4_next_74 (by decide) ?_
    refine lv_icmp_ne (tgt := 89) hx hb dX4_next_77 (by decide) (fun hc => ?_) (fun hc => ?_)
    · have h := h.1 hc
      refine lv_iload hx hb dX4_next_89 (lv_at hl 4 rfl) ?_
      exact x_iret E hH h dX4_next_91
    · have h := h.2 hc
      refine lv_aload_n hx hb dX4_next_80 rfl (lv_at hl 0 rfl) ?_
      refine lv_bipush (v := (-6 : Int32)) hx hb dX4_next_81 (by decide) ?_
      refine x_ci (x_runV (As := [.int (-6 : Int32)]) (rest := []) E (c_X4_answer h) yk_X4_answer yi_X4_answer km_X4_86 ⟨Nat.le_of_ble_eq_true rfl, Nat.le_of_ble_eq_true rfl⟩ ⟨Nat.le_of_ble_eq_true rfl, Nat.le_of_ble_eq_true rfl⟩ hH (va_recv E.2.2.2.2.2.1 hH.1 (ci := 4) (q0 := 0) rfl wM_g0) hl.1 rfl rfl (lv_room (Nat.le_of_ble_eq_true rfl)) dX4_next_83) hH (fun r7 C6 H locs h hH => ?_)
      refine lv_goto (tgt := 91) hx hb dX4_next_86 (by decide) ?_
      exact x_iret E hH h dX4_next_91
  · have h := h.2 hc
    refine lv_aload_n hx hb dX4_next_35 rfl (lv_at hl 0 rfl) ?_
    refine lv_iload_n hx hb dX4_next_36 rfl (lv_at hl 1 rfl) ?_
    refine lv_iload hx hb dX4_next_37 (lv_at hl 5 rfl) ?_
    refine x_ci (x_runV (As := [.int x1, .int x7]) (rest := []) E (c_X4_valueAt h) yk_X4_valueAt yi_X4_valueAt km_X4_103 ⟨Nat.le_of_ble_eq_true rfl, Nat.le_of_ble_eq_true rfl⟩ ⟨Nat.le_of_ble_eq_true rfl, Nat.le_of_ble_eq_true rfl⟩ hH (va_recv E.2.2.2.2.2.1 hH.1 (ci := 4) (q0 := 0) rfl wM_g0) hl.1 rfl rfl (lv_room (Nat.le_of_ble_eq_true rfl)) dX4_next_39) hH (fun r9 C8 H locs h hH => ?_)
    refine lv_iload hx hb dX4_next_42 (lv_at hl 3 rfl) ?_
    refine lv_icmp_lt (tgt := 62) hx hb dX4_next_44 (by decide) (fun hc => ?_) (fun hc => ?_)
    · have h := h.1 hc
      refine lv_iload hx hb dX4_next_62 (lv_at hl 4 rfl) ?_
      exact k_X4_next_64 E hK29 hH (lv_sub hl [0, 1, 2, 3, 5] rfl) h
    · have h := h.2 hc
      refine lv_iload hx hb dX4_next_47 (lv_at hl 4 rfl) ?_
      refine lv_aload_n hx hb dX4_next_49 rfl (lv_at hl 0 rfl) ?_
      refine lv_iload_n hx hb dX4_next_50 rfl (lv_at hl 1 rfl) ?_
      refine lv_iload hx hb dX4_next_51 (lv_at hl 5 rfl) ?_
      refine x_ci (x_runV (As := [.int x1, .int x7]) (rest := [.int x6]) E (c_X4_valueAt h) yk_X4_valueAt yi_X4_valueAt km_X4_103 ⟨Nat.le_of_ble_eq_true rfl, Nat.le_of_ble_eq_true rfl⟩ ⟨Nat.le_of_ble_eq_true rfl, Nat.le_of_ble_eq_true rfl⟩ hH (va_recv E.2.2.2.2.2.1 hH.1 (ci := 4) (q0 := 0) rfl wM_g0) hl.1 rfl rfl (lv_room (Nat.le_of_ble_eq_true rfl)) dX4_next_53) hH (fun r11 C10 H locs h hH => ?_)
      refine va_mmin hx hb (E.2.2.1.trans hl.1.symm) E.2.2.2.1 (E.2.2.2.2.1 _ km_X4_153) (E.2.2.2.2.1 _ km_min_s) (E.2.2.2.2.1 _ km_math) (E.2.2.2.2.1 _ km_min_c) (by decide) (by decide) (by decide) (by decide) dX4_next_56 ?_
      refine lv_goto (tgt := 64) hx hb dX4_next_59 (by decide) ?_
      exact k_X4_next_64 E hK29 hH (lv_sub hl [0, 1, 2, 3, 5] rfl) h
theorem k_X4_next_29 {post : Int32 → MS → Prop} (E : Cx p s m args meth c cX4_next 8 RX4 (some .int) D (tyW cI cS cO))  (n : Nat) : ∀ {C : MS} {x1 : Int32} {x3 : Int32} {x4 : Int32} {x6 : Int32} {x7 : Int32} {H : Heap} {locs : List Loc} {ls : Array Slot} (hH : HX D (wM cI cS a C) A s.heap H locs) (hl : lv_has ls 8 [(0, .ref (a 0)), (1, .int x1), (3, .int x3), (4, .int x4), (6, .int x6), (7, .int x7)]) (h : w_X4_next_29 post n C x1 x3 x4 x6 x7), W p l e (rmA 3 0 0) s m args below meth c H locs 0 0 (MQ below ((QI D (wM cI cS a) post) A) args s 0 0 A) (F0 m 29 ls []) := by
  induction n with
  | zero => intros; contradiction
  | succ n ih => intro C x1 x3 x4 x6 x7 H locs ls hH hl h; exact k_X4_next_29b E  (fun C x1 x3 x4 x6 x7 H locs ls hH hl h => ih hH hl h) hH hl h
set_option maxHeartbeats 4000000 in
set_option maxRecDepth 100000 in
theorem c_X4_next {l : Launch} {D : va_G} {cI cS cO : ClassId} {a : Nat → Nat} {C : MS} {x1 : Int32} {x2 : Int32} {x3 : Int32} {x4 : Int32} {post : Int32 → MS → Prop} (h : w_X4_next post C x1 x2 x3 x4) : MetX l D (tyW cI cS cO) yX4_next cX4_next 8 (some .int) 3 0 0 [.ref (a 0), .int x1, .int x2, .int x3, .int x4] (wM cI cS a C) (QI D (wM cI cS a) post) := by
  refine x_ent (by decide) (Nat.le_of_ble_eq_true rfl) ?_
  intro p e s m below meth c ls E _ hH hl
  have hx := E.1
  have hb := E.2.1
  generalize va_A (wM cI cS a C) s.heap.size = A at hH ⊢
  have hl : lv_has ls 8 [(0, .ref (a 0)), (1, .int x1), (2, .int x2), (3, .int x3), (4, .int x4)] := hl
  unfold w_X4_next at h
  refine lv_aload_n hx hb dX4_next_0 rfl (lv_at hl 0 rfl) ?_
  refine lv_iload_n hx hb dX4_next_1 rfl (lv_at hl 1 rfl) ?_
  refine lv_iload_n hx hb dX4_next_2 rfl (lv_at hl 2 rfl) ?_
  refine lv_iload_n hx hb dX4_next_3 rfl (lv_at hl 3 rfl) ?_
  refine x_ci (x_runV (As := [.int x1, .int x2, .int x3]) (rest := []) E (c_X4_lookSpan h) yk_X4_lookSpan yi_X4_lookSpan km_X4_99 ⟨Nat.le_of_ble_eq_true rfl, Nat.le_of_ble_eq_true rfl⟩ ⟨Nat.le_of_ble_eq_true rfl, Nat.le_of_ble_eq_true rfl⟩ hH (va_recv E.2.2.2.2.2.1 hH.1 (ci := 4) (q0 := 0) rfl wM_g0) hl.1 rfl rfl (lv_room (Nat.le_of_ble_eq_true rfl)) dX4_next_4) hH (fun r2 C1 H locs h hH => ?_)
  refine lv_istore (lv' := [(5, .int r2), (0, .ref (a 0)), (1, .int x1), (2, .int x2), (3, .int x3), (4, .int x4)]) hx hb dX4_next_7 hl (by decide) rfl (fun ls hl => ?_)
  refine lv_iload hx hb dX4_next_9 (lv_at hl 0 rfl) ?_
  refine lv_if_ge (tgt := 21) hx hb dX4_next_11 (by decide) (fun hc => ?_) (fun hc => ?_)
  · have h := h.1 hc
    refine lv_sipush (v := (1024 : Int32)) hx hb dX4_next_21 (by decide) ?_
    refine lv_istore (lv' := [(6, .int (1024 : Int32)), (5, .int r2), (0, .ref (a 0)), (1, .int x1), (2, .int x2), (3, .int x3), (4, .int x4)]) hx hb dX4_next_24 hl (by decide) rfl (fun ls hl => ?_)
    refine lv_iload_n hx hb dX4_next_26 rfl (lv_at hl 4 rfl) ?_
    refine lv_istore (lv' := [(7, .int x2), (6, .int (1024 : Int32)), (5, .int r2), (0, .ref (a 0)), (1, .int x1), (2, .int x2), (3, .int x3), (4, .int x4)]) hx hb dX4_next_27 hl (by decide) rfl (fun ls hl => ?_)
    obtain ⟨n, h⟩ := h
    exact k_X4_next_29 E  n hH (lv_sub hl [3, 4, 6, 7, 1, 0] rfl) h
  · have h := h.2 hc
    refine lv_aload_n hx hb dX4_next_14 rfl (lv_at hl 1 rfl) ?_
    refine lv_iload hx hb dX4_next_15 (lv_at hl 0 rfl) ?_
    refine x_ci (x_runV (As := [.int r2]) (rest := []) E (c_X4_answer h) yk_X4_answer yi_X4_answer km_X4_86 ⟨Nat.le_of_ble_eq_true rfl, Nat.le_of_ble_eq_true rfl⟩ ⟨Nat.le_of_ble_eq_true rfl, Nat.le_of_ble_eq_true rfl⟩ hH (va_recv E.2.2.2.2.2.1 hH.1 (ci := 4) (q0 := 0) rfl wM_g0) hl.1 rfl rfl (lv_room (Nat.le_of_ble_eq_true rfl)) dX4_next_17) hH (fun r5 C4 H locs h hH => ?_)
    exact x_iret E hH h dX4_next_20
set_option maxHeartbeats 4000000 in
set_option maxRecDepth 100000 in
theorem k_X4_prior_62 {post : Int32 → MS → Prop} (E : Cx p s m args meth c cX4_prior 8 RX4 (some .int) D (tyW cI cS cO)) {K27 : MS → Int32 → Int32 → Int32 → Int32 → Int32 → Prop} (hK27 : ∀ (C : MS) (x1 : Int32) (x3 : Int32) (x4 : Int32) (x6 : Int32) (x7 : Int32) (H : Heap) (locs : List Loc) (ls : Array Slot), HX D (wM cI cS a C) A s.heap H locs → lv_has ls 8 [(0, .ref (a 0)), (1, .int x1), (3, .int x3), (4, .int x4), (6, .int x6), (7, .int x7)] → K27 C x1 x3 x4 x6 x7 → W p l e (rmA 3 0 0) s m args below meth c H locs 0 0 (MQ below ((QI D (wM cI cS a) post) A) args s 0 0 A) (F0 m 27 ls [])) {C : MS} {x1 : Int32} {x3 : Int32} {x4 : Int32} {x7 : Int32} {s0 : Int32} {H : Heap} {locs : List Loc} {ls : Array Slot} (hH : HX D (wM cI cS a C) A s.heap H locs) (hl : lv_has ls 8 [(0, .ref (a 0)), (1, .int x1), (3, .int x3), (4, .int x4), (7, .int x7)]) (h : w_X4_prior_62 post K27 C x1 x3 x4 x7 s0) : W p l e (rmA 3 0 0) s m args below meth c H locs 0 0 (MQ below ((QI D (wM cI cS a) post) A) args s 0 0 A) (F0 m 62 ls [.int s0]) := by
  have hx := E.1
  have hb := E.2.1
  unfold w_X4_prior_62 at h
  refine lv_istore (lv' := [(6, .int s0), (0, .ref (a 0)), (1, .int x1), (3, .int x3), (4, .int x4), (7, .int x7)]) hx hb dX4_prior_62 hl (by decide) rfl (fun ls hl => ?_)
  refine lv_iinc (v := (x7 + 1)) (lv' := [(7, .int (x7 + 1)), (6, .int s0), (0, .ref (a 0)), (1, .int x1), (3, .int x3), (4, .int x4)]) hx hb dX4_prior_64 hl (k := 5) rfl rfl (by decide) rfl (fun ls hl => ?_)
  refine lv_goto (tgt := 27) hx hb dX4_prior_67 (by decide) ?_
  exact hK27 _ _ _ _ _ _ _ _ _ hH (lv_sub hl [2, 3, 4, 5, 1, 0] rfl) h
set_option maxHeartbeats 4000000 in
set_option maxRecDepth 100000 in
theorem k_X4_prior_27b {post : Int32 → MS → Prop} (E : Cx p s m args meth c cX4_prior 8 RX4 (some .int) D (tyW cI cS cO))  {K27 : MS → Int32 → Int32 → Int32 → Int32 → Int32 → Prop} (hK27 : ∀ (C : MS) (x1 : Int32) (x3 : Int32) (x4 : Int32) (x6 : Int32) (x7 : Int32) (H : Heap) (locs : List Loc) (ls : Array Slot), HX D (wM cI cS a C) A s.heap H locs → lv_has ls 8 [(0, .ref (a 0)), (1, .int x1), (3, .int x3), (4, .int x4), (6, .int x6), (7, .int x7)] → K27 C x1 x3 x4 x6 x7 → W p l e (rmA 3 0 0) s m args below meth c H locs 0 0 (MQ below ((QI D (wM cI cS a) post) A) args s 0 0 A) (F0 m 27 ls [])) {C : MS} {x1 : Int32} {x3 : Int32} {x4 : Int32} {x6 : Int32} {x7 : Int32} {H : Heap} {locs : List Loc} {ls : Array Slot} (hH : HX D (wM cI cS a C) A s.heap H locs) (hl : lv_has ls 8 [(0, .ref (a 0)), (1, .int x1), (3, .int x3), (4, .int x4), (6, .int x6), (7, .int x7)]) (h : w_X4_prior_27b post K27 C x1 x3 x4 x6 x7) : W p l e (rmA 3 0 0) s m args below meth c H locs 0 0 (MQ below ((QI D (wM cI cS a) post) A) args s 0 0 A) (F0 m 27 ls []) := by
  have hx := E.1
  have hb := E.2.1
  unfold w_X4_prior_27b at h
  refine lv_iload hx hb dX4_prior_27 (lv_at hl 5 rfl) ?_
  refine lv_iload_n hx hb dX4_prior_29 rfl (lv_at hl 2 rfl) ?_
  refine lv_icmp_ge (tgt := 70) hx hb dX4_prior_30 (by decide) (fun hc => ?_) (fun hc => ?_)
  · have h := h.1 hc
    refine lv_iload hx hb dX4_prior_70 (lv_at hl 4 rfl) ?_
    refine lv_iconst (v := (-1 : Int32)) hx hb dX4_prior_72 (by decide) ?_
    refine lv_icmp_ne (tgt := 85) hx hb dX4_prior_73 (by decide) (fun hc => ?_) (fun hc => ?_)
    · have h := h.1 hc
      refine lv_iload hx hb dX4_prior_85 (lv_at hl 4 rfl) ?_
      exact x_iret E hH h dX4_prior_87
    · have h := h.2 hc
      refine lv_aload_n hx hb dX4_prior_76 rfl (lv_at hl 0 rfl) ?_
      refine lv_bipush (v := (-6 : Int32)) hx hb dX4_prior_77 (by decide) ?_
      refine x_ci (x_runV (As := [.int (-6 : Int32)]) (rest := []) E (c_X4_answer h) yk_X4_answer yi_X4_answer km_X4_86 ⟨Nat.le_of_ble_eq_true rfl, Nat.le_of_ble_eq_true rfl⟩ ⟨Nat.le_of_ble_eq_true rfl, Nat.le_of_ble_eq_true rfl⟩ hH (va_recv E.2.2.2.2.2.1 hH.1 (ci := 4) (q0 := 0) rfl wM_g0) hl.1 rfl rfl (lv_room (Nat.le_of_ble_eq_true rfl)) dX4_prior_79) hH (fun r7 C6 H locs h hH => ?_)
      refine lv_goto (tgt := 87) hx hb dX4_prior_82 (by decide) ?_
      exact x_iret E hH h dX4_prior_87
  · have h := h.2 hc
    refine lv_aload_n hx hb dX4_prior_33 rfl (lv_at hl 0 rfl) ?_
    refine lv_iload_n hx hb dX4_prior_34 rfl (lv_at hl 1 rfl) ?_
    refine lv_iload hx hb dX4_prior_35 (lv_at hl 5 rfl) ?_
    refine x_ci (x_runV (As := [.int x1, .int x7]) (rest := []) E (c_X4_valueAt h) yk_X4_valueAt yi_X4_valueAt km_X4_103 ⟨Nat.le_of_ble_eq_true rfl, Nat.le_of_ble_eq_true rfl⟩ ⟨Nat.le_of_ble_eq_true rfl, Nat.le_of_ble_eq_true rfl⟩ hH (va_recv E.2.2.2.2.2.1 hH.1 (ci := 4) (q0 := 0) rfl wM_g0) hl.1 rfl rfl (lv_room (Nat.le_of_ble_eq_true rfl)) dX4_prior_37) hH (fun r9 C8 H locs h hH => ?_)
    refine lv_iload hx hb dX4_prior_40 (lv_at hl 3 rfl) ?_
    refine lv_icmp_gt (tgt := 60) hx hb dX4_prior_42 (by decide) (fun hc => ?_) (fun hc => ?_)
    · have h := h.1 hc
      refine lv_iload hx hb dX4_prior_60 (lv_at hl 4 rfl) ?_
      exact k_X4_prior_62 E hK27 hH (lv_sub hl [0, 1, 2, 3, 5] rfl) h
    · have h := h.2 hc
      refine lv_iload hx hb dX4_prior_45 (lv_at hl 4 rfl) ?_
      refine lv_aload_n hx hb dX4_prior_47 rfl (lv_at hl 0 rfl) ?_
      refine lv_iload_n hx hb dX4_prior_48 rfl (lv_at hl 1 rfl) ?_
      refine lv_iload hx hb dX4_prior_49 (lv_at hl 5 rfl) ?_
      refine x_ci (x_runV (As := [.int x1, .int x7]) (rest := [.int x6]) E (c_X4_valueAt h) yk_X4_valueAt yi_X4_valueAt km_X4_103 ⟨Nat.le_of_ble_eq_true rfl, Nat.le_of_ble_eq_true rfl⟩ ⟨Nat.le_of_ble_eq_true rfl, Nat.le_of_ble_eq_true rfl⟩ hH (va_recv E.2.2.2.2.2.1 hH.1 (ci := 4) (q0 := 0) rfl wM_g0) hl.1 rfl rfl (lv_room (Nat.le_of_ble_eq_true rfl)) dX4_prior_51) hH (fun r11 C10 H locs h hH => ?_)
      refine va_mmax hx hb (E.2.2.1.trans hl.1.symm) E.2.2.2.1 (E.2.2.2.2.1 _ km_X4_158) (E.2.2.2.2.1 _ km_max_s) (E.2.2.2.2.1 _ km_math) (E.2.2.2.2.1 _ km_max_c) (by decide) (by decide) (by decide) (by decide) dX4_prior_54 ?_
      refine lv_goto (tgt := 62) hx hb dX4_prior_57 (by decide) ?_
      exact k_X4_prior_62 E hK27 hH (lv_sub hl [0, 1, 2, 3, 5] rfl) h
theorem k_X4_prior_27 {post : Int32 → MS → Prop} (E : Cx p s m args meth c cX4_prior 8 RX4 (some .int) D (tyW cI cS cO))  (n : Nat) : ∀ {C : MS} {x1 : Int32} {x3 : Int32} {x4 : Int32} {x6 : Int32} {x7 : Int32} {H : Heap} {locs : List Loc} {ls : Array Slot} (hH : HX D (wM cI cS a C) A s.heap H locs) (hl : lv_has ls 8 [(0, .ref (a 0)), (1, .int x1), (3, .int x3), (4, .int x4), (6, .int x6), (7, .int x7)]) (h : w_X4_prior_27 post n C x1 x3 x4 x6 x7), W p l e (rmA 3 0 0) s m args below meth c H locs 0 0 (MQ below ((QI D (wM cI cS a) post) A) args s 0 0 A) (F0 m 27 ls []) := by
  induction n with
  | zero => intros; contradiction
  | succ n ih => intro C x1 x3 x4 x6 x7 H locs ls hH hl h; exact k_X4_prior_27b E  (fun C x1 x3 x4 x6 x7 H locs ls hH hl h => ih hH hl h) hH hl h
set_option maxHeartbeats 4000000 in
set_option maxRecDepth 100000 in
theorem c_X4_prior {l : Launch} {D : va_G} {cI cS cO : ClassId} {a : Nat → Nat} {C : MS} {x1 : Int32} {x2 : Int32} {x3 : Int32} {x4 : Int32} {post : Int32 → MS → Prop} (h : w_X4_prior post C x1 x2 x3 x4) : MetX l D (tyW cI cS cO) yX4_prior cX4_prior 8 (some .int) 3 0 0 [.ref (a 0), .int x1, .int x2, .int x3, .int x4] (wM cI cS a C) (QI D (wM cI cS a) post) := by
  refine x_ent (by decide) (Nat.le_of_ble_eq_true rfl) ?_
  intro p e s m below meth c ls E _ hH hl
  have hx := E.1
  have hb := E.2.1
  generalize va_A (wM cI cS a C) s.heap.size = A at hH ⊢
  have hl : lv_has ls 8 [(0, .ref (a 0)), (1, .int x1), (2, .int x2), (3, .int x3), (4, .int x4)] := hl
  unfold w_X4_prior at h
  refine lv_aload_n hx hb dX4_prior_0 rfl (lv_at hl 0 rfl) ?_
  refine lv_iload_n hx hb dX4_prior_1 rfl (lv_at hl 1 rfl) ?_
  refine lv_iload_n hx hb dX4_prior_2 rfl (lv_at hl 2 rfl) ?_
  refine lv_iload_n hx hb dX4_prior_3 rfl (lv_at hl 3 rfl) ?_
  refine x_ci (x_runV (As := [.int x1, .int x2, .int x3]) (rest := []) E (c_X4_lookSpan h) yk_X4_lookSpan yi_X4_lookSpan km_X4_99 ⟨Nat.le_of_ble_eq_true rfl, Nat.le_of_ble_eq_true rfl⟩ ⟨Nat.le_of_ble_eq_true rfl, Nat.le_of_ble_eq_true rfl⟩ hH (va_recv E.2.2.2.2.2.1 hH.1 (ci := 4) (q0 := 0) rfl wM_g0) hl.1 rfl rfl (lv_room (Nat.le_of_ble_eq_true rfl)) dX4_prior_4) hH (fun r2 C1 H locs h hH => ?_)
  refine lv_istore (lv' := [(5, .int r2), (0, .ref (a 0)), (1, .int x1), (2, .int x2), (3, .int x3), (4, .int x4)]) hx hb dX4_prior_7 hl (by decide) rfl (fun ls hl => ?_)
  refine lv_iload hx hb dX4_prior_9 (lv_at hl 0 rfl) ?_
  refine lv_if_ge (tgt := 21) hx hb dX4_prior_11 (by decide) (fun hc => ?_) (fun hc => ?_)
  · have h := h.1 hc
    refine lv_iconst (v := (-1 : Int32)) hx hb dX4_prior_21 (by decide) ?_
    refine lv_istore (lv' := [(6, .int (-1 : Int32)), (5, .int r2), (0, .ref (a 0)), (1, .int x1), (2, .int x2), (3, .int x3), (4, .int x4)]) hx hb dX4_prior_22 hl (by decide) rfl (fun ls hl => ?_)
    refine lv_iload_n hx hb dX4_prior_24 rfl (lv_at hl 4 rfl) ?_
    refine lv_istore (lv' := [(7, .int x2), (6, .int (-1 : Int32)), (5, .int r2), (0, .ref (a 0)), (1, .int x1), (2, .int x2), (3, .int x3), (4, .int x4)]) hx hb dX4_prior_25 hl (by decide) rfl (fun ls hl => ?_)
    obtain ⟨n, h⟩ := h
    exact k_X4_prior_27 E  n hH (lv_sub hl [3, 4, 6, 7, 1, 0] rfl) h
  · have h := h.2 hc
    refine lv_aload_n hx hb dX4_prior_14 rfl (lv_at hl 1 rfl) ?_
    refine lv_iload hx hb dX4_prior_15 (lv_at hl 0 rfl) ?_
    refine x_ci (x_runV (As := [.int r2]) (rest := []) E (c_X4_answer h) yk_X4_answer yi_X4_answer km_X4_86 ⟨Nat.le_of_ble_eq_true rfl, Nat.le_of_ble_eq_true rfl⟩ ⟨Nat.le_of_ble_eq_true rfl, Nat.le_of_ble_eq_true rfl⟩ hH (va_recv E.2.2.2.2.2.1 hH.1 (ci := 4) (q0 := 0) rfl wM_g0) hl.1 rfl rfl (lv_room (Nat.le_of_ble_eq_true rfl)) dX4_prior_17) hH (fun r5 C4 H locs h hH => ?_)
    exact x_iret E hH h dX4_prior_20
set_option maxHeartbeats 4000000 in
set_option maxRecDepth 100000 in
theorem k_X4_median_32 {post : Int32 → MS → Prop} (E : Cx p s m args meth c cX4_median 5 RX4 (some .int) D (tyW cI cS cO))  {C : MS} {s0 : Int32} {H : Heap} {locs : List Loc} {ls : Array Slot} (hH : HX D (wM cI cS a C) A s.heap H locs) (hl : lv_has ls 5 []) (h : w_X4_median_32 post C s0) : W p l e (rmA 4 0 0) s m args below meth c H locs 0 0 (MQ below ((QI D (wM cI cS a) post) A) args s 0 0 A) (F0 m 32 ls [.int s0, .ref (a 0)]) := by
  have hx := E.1
  have hb := E.2.1
  unfold w_X4_median_32 at h
  refine x_ci (x_runV (As := [.int s0]) (rest := []) E (c_X4_answer h) yk_X4_answer yi_X4_answer km_X4_86 ⟨Nat.le_of_ble_eq_true rfl, Nat.le_of_ble_eq_true rfl⟩ ⟨Nat.le_of_ble_eq_true rfl, Nat.le_of_ble_eq_true rfl⟩ hH (va_recv E.2.2.2.2.2.1 hH.1 (ci := 4) (q0 := 0) rfl wM_g0) hl.1 rfl rfl (lv_room (Nat.le_of_ble_eq_true rfl)) dX4_median_32) hH (fun r6 C5 H locs h hH => ?_)
  exact x_iret E hH h dX4_median_35
set_option maxHeartbeats 4000000 in
set_option maxRecDepth 100000 in
theorem k_X4_median_19 {post : Int32 → MS → Prop} (E : Cx p s m args meth c cX4_median 5 RX4 (some .int) D (tyW cI cS cO))  {C : MS} {x4 : Int32} {H : Heap} {locs : List Loc} {ls : Array Slot} (hH : HX D (wM cI cS a C) A s.heap H locs) (hl : lv_has ls 5 [(0, .ref (a 0)), (4, .int x4)]) (h : w_X4_median_19 post C x4) : W p l e (rmA 4 0 0) s m args below meth c H locs 0 0 (MQ below ((QI D (wM cI cS a) post) A) args s 0 0 A) (F0 m 19 ls []) := by
  have hx := E.1
  have hb := E.2.1
  unfold w_X4_median_19 at h
  refine lv_aload_n hx hb dX4_median_19 rfl (lv_at hl 0 rfl) ?_
  refine lv_iload hx hb dX4_median_20 (lv_at hl 1 rfl) ?_
  refine lv_if_ge (tgt := 30) hx hb dX4_median_22 (by decide) (fun hc => ?_) (fun hc => ?_)
  · have h := h.1 hc
    refine lv_bipush (v := (-6 : Int32)) hx hb dX4_median_30 (by decide) ?_
    exact k_X4_median_32 E  hH (lv_sub hl [] rfl) h
  · have h := h.2 hc
    refine lv_iload hx hb dX4_median_25 (lv_at hl 1 rfl) ?_
    refine lv_goto (tgt := 32) hx hb dX4_median_27 (by decide) ?_
    exact k_X4_median_32 E  hH (lv_sub hl [] rfl) h
set_option maxHeartbeats 4000000 in
set_option maxRecDepth 100000 in
theorem c_X4_median {l : Launch} {D : va_G} {cI cS cO : ClassId} {a : Nat → Nat} {C : MS} {x1 : Int32} {x2 : Int32} {x3 : Int32} {post : Int32 → MS → Prop} (h : w_X4_median post C x1 x2 x3) : MetX l D (tyW cI cS cO) yX4_median cX4_median 5 (some .int) 4 0 0 [.ref (a 0), .int x1, .int x2, .int x3] (wM cI cS a C) (QI D (wM cI cS a) post) := by
  refine x_ent (by decide) (Nat.le_of_ble_eq_true rfl) ?_
  intro p e s m below meth c ls E _ hH hl
  have hx := E.1
  have hb := E.2.1
  generalize va_A (wM cI cS a C) s.heap.size = A at hH ⊢
  have hl : lv_has ls 5 [(0, .ref (a 0)), (1, .int x1), (2, .int x2), (3, .int x3)] := hl
  unfold w_X4_median at h
  refine lv_aload_n hx hb dX4_median_0 rfl (lv_at hl 0 rfl) ?_
  refine lv_iload_n hx hb dX4_median_1 rfl (lv_at hl 1 rfl) ?_
  refine lv_iload_n hx hb dX4_median_2 rfl (lv_at hl 2 rfl) ?_
  refine lv_iload_n hx hb dX4_median_3 rfl (lv_at hl 3 rfl) ?_
  refine x_ci (x_runV (As := [.int x1, .int x2, .int x3]) (rest := []) E (c_X4_lookSpan h) yk_X4_lookSpan yi_X4_lookSpan km_X4_99 ⟨Nat.le_of_ble_eq_true rfl, Nat.le_of_ble_eq_true rfl⟩ ⟨Nat.le_of_ble_eq_true rfl, Nat.le_of_ble_eq_true rfl⟩ hH (va_recv E.2.2.2.2.2.1 hH.1 (ci := 4) (q0 := 0) rfl wM_g0) hl.1 rfl rfl (lv_room (Nat.le_of_ble_eq_true rfl)) dX4_median_4) hH (fun r2 C1 H locs h hH => ?_)
  refine lv_istore (lv' := [(4, .int r2), (0, .ref (a 0)), (1, .int x1), (2, .int x2), (3, .int x3)]) hx hb dX4_median_7 hl (by decide) rfl (fun ls hl => ?_)
  refine lv_iload hx hb dX4_median_9 (lv_at hl 0 rfl) ?_
  refine lv_if_lt (tgt := 19) hx hb dX4_median_11 (by decide) (fun hc => ?_) (fun hc => ?_)
  · have h := h.1 hc
    exact k_X4_median_19 E  hH (lv_sub hl [1, 0] rfl) h
  · have h := h.2 hc
    refine lv_iload_n hx hb dX4_median_14 rfl (lv_at hl 3 rfl) ?_
    refine lv_iload_n hx hb dX4_median_15 rfl (lv_at hl 4 rfl) ?_
    refine lv_icmp_ne (tgt := 36) hx hb dX4_median_16 (by decide) (fun hc => ?_) (fun hc => ?_)
    · have h := h.1 hc
      refine lv_aload_n hx hb dX4_median_36 rfl (lv_at hl 1 rfl) ?_
      refine lv_iload_n hx hb dX4_median_37 rfl (lv_at hl 2 rfl) ?_
      refine lv_iload_n hx hb dX4_median_38 rfl (lv_at hl 3 rfl) ?_
      refine lv_iload_n hx hb dX4_median_39 rfl (lv_at hl 4 rfl) ?_
      refine lv_iload_n hx hb dX4_median_40 rfl (lv_at hl 4 rfl) ?_
      refine lv_iload_n hx hb dX4_median_41 rfl (lv_at hl 3 rfl) ?_
      refine lv_isub hx hb dX4_median_42 ?_
      refine lv_iconst (v := (1 : Int32)) hx hb dX4_median_43 (by decide) ?_
      refine lv_isub hx hb dX4_median_44 ?_
      refine lv_iconst (v := (2 : Int32)) hx hb dX4_median_45 (by decide) ?_
      refine lv_idiv hx hb dX4_median_46 (by decide) ?_
      refine x_ci (x_runV (As := [.int x1, .int x2, .int x3, .int (((x3 - x2) - (1 : Int32)) / (2 : Int32))]) (rest := []) E (c_X4_find h) yk_X4_find yi_X4_find km_X4_141 ⟨Nat.le_of_ble_eq_true rfl, Nat.le_of_ble_eq_true rfl⟩ ⟨Nat.le_of_ble_eq_true rfl, Nat.le_of_ble_eq_true rfl⟩ hH (va_recv E.2.2.2.2.2.1 hH.1 (ci := 4) (q0 := 0) rfl wM_g0) hl.1 rfl rfl (lv_room (Nat.le_of_ble_eq_true rfl)) dX4_median_47) hH (fun r4 C3 H locs h hH => ?_)
      exact x_iret E hH h dX4_median_50
    · have h := h.2 hc
      exact k_X4_median_19 E  hH (lv_sub hl [1, 0] rfl) h
set_option maxHeartbeats 4000000 in
set_option maxRecDepth 100000 in
theorem k_X4_half_35b {post : Int32 → MS → Prop} (E : Cx p s m args meth c cX4_half 6 RX4 (some .int) D (tyW cI cS cO))  {K35 : MS → Int32 → Int32 → Int32 → Prop} (hK35 : ∀ (C : MS) (x2 : Int32) (x3 : Int32) (x5 : Int32) (H : Heap) (locs : List Loc) (ls : Array Slot), HX D (wM cI cS a C) A s.heap H locs → lv_has ls 6 [(0, .ref (a 0)), (2, .int x2), (3, .int x3), (5, .int x5)] → K35 C x2 x3 x5 → W p l e (rmA 3 0 0) s m args below meth c H locs 0 0 (MQ below ((QI D (wM cI cS a) post) A) args s 0 0 A) (F0 m 35 ls [])) {C : MS} {x2 : Int32} {x3 : Int32} {x5 : Int32} {H : Heap} {locs : List Loc} {ls : Array Slot} (hH : HX D (wM cI cS a C) A s.heap H locs) (hl : lv_has ls 6 [(0, .ref (a 0)), (2, .int x2), (3, .int x3), (5, .int x5)]) (h : w_X4_half_35b post K35 C x2 x3 x5) : W p l e (rmA 3 0 0) s m args below meth c H locs 0 0 (MQ below ((QI D (wM cI cS a) post) A) args s 0 0 A) (F0 m 35 ls []) := by
  have hx := E.1
  have hb := E.2.1
  unfold w_X4_half_35b at h
  refine lv_iload hx hb dX4_half_35 (lv_at hl 3 rfl) ?_
  refine lv_sipush (v := (1024 : Int32)) hx hb dX4_half_37 (by decide) ?_
  refine lv_icmp_ge (tgt := 67) hx hb dX4_half_40 (by decide) (fun hc => ?_) (fun hc => ?_)
  · have h := h.1 hc
    refine lv_aload_n hx hb dX4_half_67 rfl (lv_at hl 0 rfl) ?_
    refine lv_bipush (v := (-6 : Int32)) hx hb dX4_half_68 (by decide) ?_
    refine x_ci (x_runV (As := [.int (-6 : Int32)]) (rest := []) E (c_X4_answer h) yk_X4_answer yi_X4_answer km_X4_86 ⟨Nat.le_of_ble_eq_true rfl, Nat.le_of_ble_eq_true rfl⟩ ⟨Nat.le_of_ble_eq_true rfl, Nat.le_of_ble_eq_true rfl⟩ hH (va_recv E.2.2.2.2.2.1 hH.1 (ci := 4) (q0 := 0) rfl wM_g0) hl.1 rfl rfl (lv_room (Nat.le_of_ble_eq_true rfl)) dX4_half_70) hH (fun r9 C8 H locs h hH => ?_)
    exact x_iret E hH h dX4_half_73
  · have h := h.2 hc
    refine lv_iconst (v := (2 : Int32)) hx hb dX4_half_43 (by decide) ?_
    refine lv_aload_n hx hb dX4_half_44 rfl (lv_at hl 0 rfl) ?_
    refine x_get (ci := 4) (CN := RX4) (T := TX4) (N := 20) E in_X4 hH 0 wM_g0 rfl 18 (by decide) kf_X4_58 rfl dX4_half_45 ?_
    refine lv_iload hx hb dX4_half_48 (lv_at hl 3 rfl) ?_
    obtain ⟨hi10, h⟩ := h
    refine x_iald E hH 15 0 wM_g18 rfl hi10 dX4_half_50 ?_
    refine lv_imul hx hb dX4_half_51 ?_
    refine lv_iload_n hx hb dX4_half_52 rfl (lv_at hl 2 rfl) ?_
    refine lv_iload_n hx hb dX4_half_53 rfl (lv_at hl 1 rfl) ?_
    refine lv_isub hx hb dX4_half_54 ?_
    refine lv_icmp_le (tgt := 61) hx hb dX4_half_55 (by decide) (fun hc => ?_) (fun hc => ?_)
    · have h := h.1 hc
      refine lv_iinc (v := (x5 + 1)) (lv' := [(5, .int (x5 + 1)), (0, .ref (a 0)), (2, .int x2), (3, .int x3)]) hx hb dX4_half_61 hl (k := 3) rfl rfl (by decide) rfl (fun ls hl => ?_)
      refine lv_goto (tgt := 35) hx hb dX4_half_64 (by decide) ?_
      exact hK35 _ _ _ _ _ _ _ hH (lv_sub hl [1, 2, 3, 0] rfl) h
    · have h := h.2 hc
      refine lv_iload hx hb dX4_half_58 (lv_at hl 3 rfl) ?_
      exact x_iret E hH h dX4_half_60
theorem k_X4_half_35 {post : Int32 → MS → Prop} (E : Cx p s m args meth c cX4_half 6 RX4 (some .int) D (tyW cI cS cO))  (n : Nat) : ∀ {C : MS} {x2 : Int32} {x3 : Int32} {x5 : Int32} {H : Heap} {locs : List Loc} {ls : Array Slot} (hH : HX D (wM cI cS a C) A s.heap H locs) (hl : lv_has ls 6 [(0, .ref (a 0)), (2, .int x2), (3, .int x3), (5, .int x5)]) (h : w_X4_half_35 post n C x2 x3 x5), W p l e (rmA 3 0 0) s m args below meth c H locs 0 0 (MQ below ((QI D (wM cI cS a) post) A) args s 0 0 A) (F0 m 35 ls []) := by
  induction n with
  | zero => intros; contradiction
  | succ n ih => intro C x2 x3 x5 H locs ls hH hl h; exact k_X4_half_35b E  (fun C x2 x3 x5 H locs ls hH hl h => ih hH hl h) hH hl h
set_option maxHeartbeats 4000000 in
set_option maxRecDepth 100000 in
theorem c_X4_half {l : Launch} {D : va_G} {cI cS cO : ClassId} {a : Nat → Nat} {C : MS} {x1 : Int32} {x2 : Int32} {x3 : Int32} {post : Int32 → MS → Prop} (h : w_X4_half post C x1 x2 x3) : MetX l D (tyW cI cS cO) yX4_half cX4_half 6 (some .int) 3 0 0 [.ref (a 0), .int x1, .int x2, .int x3] (wM cI cS a C) (QI D (wM cI cS a) post) := by
  refine x_ent (by decide) (Nat.le_of_ble_eq_true rfl) ?_
  intro p e s m below meth c ls E _ hH hl
  have hx := E.1
  have hb := E.2.1
  generalize va_A (wM cI cS a C) s.heap.size = A at hH ⊢
  have hl : lv_has ls 6 [(0, .ref (a 0)), (1, .int x1), (2, .int x2), (3, .int x3)] := hl
  unfold w_X4_half at h
  refine lv_aload_n hx hb dX4_half_0 rfl (lv_at hl 0 rfl) ?_
  refine lv_iload_n hx hb dX4_half_1 rfl (lv_at hl 1 rfl) ?_
  refine lv_iload_n hx hb dX4_half_2 rfl (lv_at hl 2 rfl) ?_
  refine lv_iload_n hx hb dX4_half_3 rfl (lv_at hl 3 rfl) ?_
  refine x_ci (x_runV (As := [.int x1, .int x2, .int x3]) (rest := []) E (c_X4_lookSpan h) yk_X4_lookSpan yi_X4_lookSpan km_X4_99 ⟨Nat.le_of_ble_eq_true rfl, Nat.le_of_ble_eq_true rfl⟩ ⟨Nat.le_of_ble_eq_true rfl, Nat.le_of_ble_eq_true rfl⟩ hH (va_recv E.2.2.2.2.2.1 hH.1 (ci := 4) (q0 := 0) rfl wM_g0) hl.1 rfl rfl (lv_room (Nat.le_of_ble_eq_true rfl)) dX4_half_4) hH (fun r2 C1 H locs h hH => ?_)
  refine lv_istore (lv' := [(4, .int r2), (0, .ref (a 0)), (1, .int x1), (2, .int x2), (3, .int x3)]) hx hb dX4_half_7 hl (by decide) rfl (fun ls hl => ?_)
  refine lv_iload hx hb dX4_half_9 (lv_at hl 0 rfl) ?_
  refine lv_if_ge (tgt := 21) hx hb dX4_half_11 (by decide) (fun hc => ?_) (fun hc => ?_)
  · have h := h.1 hc
    refine lv_aload_n hx hb dX4_half_21 rfl (lv_at hl 1 rfl) ?_
    refine lv_iload_n hx hb dX4_half_22 rfl (lv_at hl 2 rfl) ?_
    refine lv_iload_n hx hb dX4_half_23 rfl (lv_at hl 3 rfl) ?_
    refine lv_iload_n hx hb dX4_half_24 rfl (lv_at hl 4 rfl) ?_
    refine lv_aload_n hx hb dX4_half_25 rfl (lv_at hl 1 rfl) ?_
    refine x_get (ci := 4) (CN := RX4) (T := TX4) (N := 20) E in_X4 hH 0 wM_g0 rfl 18 (by decide) kf_X4_58 rfl dX4_half_26 ?_
    refine x_cv (x_runV (As := [.int x1, .int x2, .int x3, .ref (a 18)]) (rest := []) E (c_X4_count18 h) yk_X4_count yi_X4_count km_X4_134 ⟨Nat.le_of_ble_eq_true rfl, Nat.le_of_ble_eq_true rfl⟩ ⟨Nat.le_of_ble_eq_true rfl, Nat.le_of_ble_eq_true rfl⟩ hH (va_recv E.2.2.2.2.2.1 hH.1 (ci := 4) (q0 := 0) rfl wM_g0) hl.1 rfl rfl (lv_room (Nat.le_of_ble_eq_true rfl)) dX4_half_29) hH (fun C3 H locs h hH => ?_)
    refine lv_iconst (v := (0 : Int32)) hx hb dX4_half_32 (by decide) ?_
    refine lv_istore (lv' := [(5, .int (0 : Int32)), (4, .int r2), (0, .ref (a 0)), (1, .int x1), (2, .int x2), (3, .int x3)]) hx hb dX4_half_33 hl (by decide) rfl (fun ls hl => ?_)
    obtain ⟨n, h⟩ := h
    exact k_X4_half_35 E  n hH (lv_sub hl [2, 4, 5, 0] rfl) h
  · have h := h.2 hc
    refine lv_aload_n hx hb dX4_half_14 rfl (lv_at hl 1 rfl) ?_
    refine lv_iload hx hb dX4_half_15 (lv_at hl 0 rfl) ?_
    refine x_ci (x_runV (As := [.int r2]) (rest := []) E (c_X4_answer h) yk_X4_answer yi_X4_answer km_X4_86 ⟨Nat.le_of_ble_eq_true rfl, Nat.le_of_ble_eq_true rfl⟩ ⟨Nat.le_of_ble_eq_true rfl, Nat.le_of_ble_eq_true rfl⟩ hH (va_recv E.2.2.2.2.2.1 hH.1 (ci := 4) (q0 := 0) rfl wM_g0) hl.1 rfl rfl (lv_room (Nat.le_of_ble_eq_true rfl)) dX4_half_17) hH (fun r7 C6 H locs h hH => ?_)
    exact x_iret E hH h dX4_half_20
end WALKS_M3
