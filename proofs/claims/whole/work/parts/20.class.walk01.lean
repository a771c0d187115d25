section WALKS_C1
variable {p : Program} {l : Launch} {e : Env} {s : State} {m : MethodId} {args : Array Value} {below : List Frame} {meth : Method} {c : Code} {D : va_G} {cI cS cO : ClassId} {a ad : Nat → Nat} {A : Nat → Prop}
set_option maxHeartbeats 4000000 in
set_option maxRecDepth 100000 in
theorem k_X0_placeApartFrom_14b {post : Int32 → CS → Prop} (E : Cx p s m args meth c cX0_placeApartFrom 4 RX0 (some .int) D (tyW cI cS cO))  {K14 : CS → Int32 → Int32 → Prop} (hK14 : ∀ (C : CS) (x2 : Int32) (x3 : Int32) (H : Heap) (locs : List Loc) (ls : Array Slot), HX D (wC cI cO a ad C) A s.heap H locs → lv_has ls 4 [(0, .ref (a 4)), (1, .ref (a 8)), (2, .int x2), (3, .int x3)] → K14 C x2 x3 → W p l e (rmA 1 0 0) s m args below meth c H locs 0 0 (MQ below ((QI D (wC cI cO a ad) post) A) args s 0 0 A) (F0 m 14 ls [])) {C : CS} {x2 : Int32} {x3 : Int32} {H : Heap} {locs : List Loc} {ls : Array Slot} (hH : HX D (wC cI cO a ad C) A s.heap H locs) (hl : lv_has ls 4 [(0, .ref (a 4)), (1, .ref (a 8)), (2, .int x2), (3, .int x3)]) (h : w_X0_placeApartFrom_14b post K14 C x2 x3) : W p l e (rmA 1 0 0) s m args below meth c H locs 0 0 (MQ below ((QI D (wC cI cO a ad) post) A) args s 0 0 A) (F0 m 14 ls []) := by
  have hx := E.1
  have hb := E.2.1
  unfold w_X0_placeApartFrom_14b at h
  refine lv_iload_n hx hb dX0_placeApartFrom_14 rfl (lv_at hl 3 rfl) ?_
  refine lv_iload_n hx hb dX0_placeApartFrom_15 rfl (lv_at hl 2 rfl) ?_
  refine lv_icmp_ge (tgt := 57) hx hb dX0_placeApartFrom_16 (by decide) (fun hc => ?_) (fun hc => ?_)
  · have h := h.1 hc
    refine lv_aload_n hx hb dX0_placeApartFrom_57 rfl (lv_at hl 0 rfl) ?_
    refine x_get (ci := 0) (CN := RX0) (T := TX0) (N := 4) E in_X0 hH 4 wC_g4 rfl 3 (by decide) kf_X0_27 rfl dX0_placeApartFrom_58 ?_
    refine lv_aload_n hx hb dX0_placeApartFrom_61 rfl (lv_at hl 1 rfl) ?_
    refine x_get (ci := 0) (CN := RX0) (T := TX0) (N := 4) E in_X0 hH 8 wC_g8 rfl 3 (by decide) kf_X0_27 rfl dX0_placeApartFrom_62 ?_
    refine lv_icmp_ne (tgt := 73) hx hb dX0_placeApartFrom_65 (by decide) (fun hc => ?_) (fun hc => ?_)
    · have h := h.1 hc
      refine lv_iload_n hx hb dX0_placeApartFrom_73 rfl (lv_at hl 2 rfl) ?_
      exact x_iret E hH h dX0_placeApartFrom_74
    · have h := h.2 hc
      refine lv_bipush (v := (-6 : Int32)) hx hb dX0_placeApartFrom_68 (by decide) ?_
      refine lv_goto (tgt := 74) hx hb dX0_placeApartFrom_70 (by decide) ?_
      exact x_iret E hH h dX0_placeApartFrom_74
  · have h := h.2 hc
    refine lv_aload_n hx hb dX0_placeApartFrom_19 rfl (lv_at hl 0 rfl) ?_
    refine x_get (ci := 0) (CN := RX0) (T := TX0) (N := 4) E in_X0 hH 4 wC_g4 rfl 0 (by decide) kf_X0_9 rfl dX0_placeApartFrom_20 ?_
    refine lv_iload_n hx hb dX0_placeApartFrom_23 rfl (lv_at hl 3 rfl) ?_
    obtain ⟨hi2, h⟩ := h
    refine x_iald E hH 5 0 wC_g5 rfl hi2 dX0_placeApartFrom_24 ?_
    refine lv_aload_n hx hb dX0_placeApartFrom_25 rfl (lv_at hl 1 rfl) ?_
    refine x_get (ci := 0) (CN := RX0) (T := TX0) (N := 4) E in_X0 hH 8 wC_g8 rfl 0 (by decide) kf_X0_9 rfl dX0_placeApartFrom_26 ?_
    refine lv_iload_n hx hb dX0_placeApartFrom_29 rfl (lv_at hl 3 rfl) ?_
    refine x_iald E hH 9 0 wC_g9 rfl hi2 dX0_placeApartFrom_30 ?_
    refine lv_icmp_ne (tgt := 49) hx hb dX0_placeApartFrom_31 (by decide) (fun hc => ?_) (fun hc => ?_)
    · have h := h.1 hc
      refine lv_iload_n hx hb dX0_placeApartFrom_49 rfl (lv_at hl 3 rfl) ?_
      exact x_iret E hH h dX0_placeApartFrom_50
    · have h := h.2 hc
      refine lv_aload_n hx hb dX0_placeApartFrom_34 rfl (lv_at hl 0 rfl) ?_
      refine x_get (ci := 0) (CN := RX0) (T := TX0) (N := 4) E in_X0 hH 4 wC_g4 rfl 1 (by decide) kf_X0_15 rfl dX0_placeApartFrom_35 ?_
      refine lv_iload_n hx hb dX0_placeApartFrom_38 rfl (lv_at hl 3 rfl) ?_
      refine x_iald E hH 6 0 wC_g6 rfl hi2 dX0_placeApartFrom_39 ?_
      refine lv_aload_n hx hb dX0_placeApartFrom_40 rfl (lv_at hl 1 rfl) ?_
      refine x_get (ci := 0) (CN := RX0) (T := TX0) (N := 4) E in_X0 hH 8 wC_g8 rfl 1 (by decide) kf_X0_15 rfl dX0_placeApartFrom_41 ?_
      refine lv_iload_n hx hb dX0_placeApartFrom_44 rfl (lv_at hl 3 rfl) ?_
      refine x_iald E hH 10 0 wC_g10 rfl hi2 dX0_placeApartFrom_45 ?_
      refine lv_icmp_eq (tgt := 51) hx hb dX0_placeApartFrom_46 (by decide) (fun hc => ?_) (fun hc => ?_)
      · have h := h.1 hc
        refine lv_iinc (v := (x3 + 1)) (lv' := [(3, .int (x3 + 1)), (0, .ref (a 4)), (1, .ref (a 8)), (2, .int x2)]) hx hb dX0_placeApartFrom_51 hl (k := 3) rfl rfl (by decide) rfl (fun ls hl => ?_)
        refine lv_goto (tgt := 14) hx hb dX0_placeApartFrom_54 (by decide) ?_
        exact hK14 _ _ _ _ _ _ hH (lv_sub hl [1, 2, 3, 0] rfl) h
      · have h := h.2 hc
        refine lv_iload_n hx hb dX0_placeApartFrom_49 rfl (lv_at hl 3 rfl) ?_
        exact x_iret E hH h dX0_placeApartFrom_50
theorem k_X0_placeApartFrom_14 {post : Int32 → CS → Prop} (E : Cx p s m args meth c cX0_placeApartFrom 4 RX0 (some .int) D (tyW cI cS cO))  (n : Nat) : ∀ {C : CS} {x2 : Int32} {x3 : Int32} {H : Heap} {locs : List Loc} {ls : Array Slot} (hH : HX D (wC cI cO a ad C) A s.heap H locs) (hl : lv_has ls 4 [(0, .ref (a 4)), (1, .ref (a 8)), (2, .int x2), (3, .int x3)]) (h : w_X0_placeApartFrom_14 post n C x2 x3), W p l e (rmA 1 0 0) s m args below meth c H locs 0 0 (MQ below ((QI D (wC cI cO a ad) post) A) args s 0 0 A) (F0 m 14 ls []) := by
  induction n with
  | zero => intros; contradiction
  | succ n ih => intro C x2 x3 H locs ls hH hl h; exact k_X0_placeApartFrom_14b E  (fun C x2 x3 H locs ls hH hl h => ih hH hl h) hH hl h
set_option maxHeartbeats 4000000 in
set_option maxRecDepth 100000 in
theorem c_X0_placeApartFrom {l : Launch} {D : va_G} {cI cS cO : ClassId} {a ad : Nat → Nat} {C : CS}  {post : Int32 → CS → Prop} (h : w_X0_placeApartFrom post C ) : MetX l D (tyW cI cS cO) yX0_placeApartFrom cX0_placeApartFrom 4 (some .int) 1 0 0 [.ref (a 4), .ref (a 8)] (wC cI cO a ad C) (QI D (wC cI cO a ad) post) := by
  refine x_ent (by decide) (Nat.le_of_ble_eq_true rfl) ?_
  intro p e s m below meth c ls E _ hH hl
  have hx := E.1
  have hb := E.2.1
  generalize va_A (wC cI cO a ad C) s.heap.size = A at hH ⊢
  have hl : lv_has ls 4 [(0, .ref (a 4)), (1, .ref (a 8))] := hl
  unfold w_X0_placeApartFrom at h
  refine lv_aload_n hx hb dX0_placeApartFrom_0 rfl (lv_at hl 0 rfl) ?_
  refine x_get (ci := 0) (CN := RX0) (T := TX0) (N := 4) E in_X0 hH 4 wC_g4 rfl 3 (by decide) kf_X0_27 rfl dX0_placeApartFrom_1 ?_
  refine lv_aload_n hx hb dX0_placeApartFrom_4 rfl (lv_at hl 1 rfl) ?_
  refine x_get (ci := 0) (CN := RX0) (T := TX0) (N := 4) E in_X0 hH 8 wC_g8 rfl 3 (by decide) kf_X0_27 rfl dX0_placeApartFrom_5 ?_
  refine va_mmin hx hb (E.2.2.1.trans hl.1.symm) E.2.2.2.1 (E.2.2.2.2.1 _ km_X0_37) (E.2.2.2.2.1 _ km_min_s) (E.2.2.2.2.1 _ km_math) (E.2.2.2.2.1 _ km_min_c) (by decide) (by decide) (by decide) (by decide) dX0_placeApartFrom_8 ?_
  refine lv_istore_n (lv' := [(2, .int (if (cz C 4) < (cz C 3) then (cz C 4) else (cz C 3))), (0, .ref (a 4)), (1, .ref (a 8))]) hx hb dX0_placeApartFrom_11 rfl hl (by decide) rfl (fun ls hl => ?_)
  refine lv_iconst (v := (0 : Int32)) hx hb dX0_placeApartFrom_12 (by decide) ?_
  refine lv_istore_n (lv' := [(3, .int (0 : Int32)), (2, .int (if (cz C 4) < (cz C 3) then (cz C 4) else (cz C 3))), (0, .ref (a 4)), (1, .ref (a 8))]) hx hb dX0_placeApartFrom_13 rfl hl (by decide) rfl (fun ls hl => ?_)
  obtain ⟨n, h⟩ := h
  exact k_X0_placeApartFrom_14 E  n hH (lv_sub hl [2, 3, 1, 0] rfl) h
set_option maxHeartbeats 4000000 in
set_option maxRecDepth 100000 in
theorem c_X1_clear {l : Launch} {D : va_G} {cI cS cO : ClassId} {a ad : Nat → Nat} {C : CS}  {post : CS → Prop} (h : w_X1_clear post C ) : MetX l D (tyW cI cS cO) yX1_clear cX1_clear 1 none 1 0 0 [.ref (a 12)] (wC cI cO a ad C) (QV D (wC cI cO a ad) post) := by
  refine x_ent (by decide) (Nat.le_of_ble_eq_true rfl) ?_
  intro p e s m below meth c ls E _ hH hl
  have hx := E.1
  have hb := E.2.1
  generalize va_A (wC cI cO a ad C) s.heap.size = A at hH ⊢
  have hl : lv_has ls 1 [(0, .ref (a 12))] := hl
  unfold w_X1_clear at h
  refine lv_aload_n hx hb dX1_clear_0 rfl (lv_at hl 0 rfl) ?_
  refine x_get (ci := 1) (CN := RX1) (T := TX1) (N := 2) E in_X1 hH 12 wC_g12 rfl 0 (by decide) kf_X1_9 rfl dX1_clear_1 ?_
  refine lv_iconst (v := (0 : Int32)) hx hb dX1_clear_4 (by decide) ?_
  refine x_cv (x_runS (As := [.ref (a 13), .int (0 : Int32)]) (rest := []) E (c_J7_fill13 h) yk_J7_fill_53178 yi_J7_fill_53178 km_X1_18 ⟨Nat.le_of_ble_eq_true rfl, Nat.le_of_ble_eq_true rfl⟩ ⟨Nat.le_of_ble_eq_true rfl, Nat.le_of_ble_eq_true rfl⟩ hH  hl.1 rfl rfl (lv_room (Nat.le_of_ble_eq_true rfl)) dX1_clear_5) hH (fun C1 H locs h hH => ?_)
  exact x_vret E hH h dX1_clear_8
set_option maxHeartbeats 4000000 in
set_option maxRecDepth 100000 in
theorem k_X1_count4_3b {post : CS → Prop} (E : Cx p s m args meth c cX1_count 6 RX1 none D (tyW cI cS cO))  {K3 : CS → Int32 → Int32 → Int32 → Prop} (hK3 : ∀ (C : CS) (x3 : Int32) (x4 : Int32) (x5 : Int32) (H : Heap) (locs : List Loc) (ls : Array Slot), HX D (wC cI cO a ad C) A s.heap H locs → lv_has ls 6 [(0, .ref (a 12)), (1, .ref (a 4)), (3, .int x3), (4, .int x4), (5, .int x5)] → K3 C x3 x4 x5 → W p l e (rmA 0 0 0) s m args below meth c H locs 0 0 (MQ below ((QV D (wC cI cO a ad) post) A) args s 0 0 A) (F0 m 3 ls [])) {C : CS} {x3 : Int32} {x4 : Int32} {x5 : Int32} {H : Heap} {locs : List Loc} {ls : Array Slot} (hH : HX D (wC cI cO a ad C) A s.heap H locs) (hl : lv_has ls 6 [(0, .ref (a 12)), (1, .ref (a 4)), (3, .int x3), (4, .int x4), (5, .int x5)]) (h : w_X1_count4_3b post K3 C x3 x4 x5) : W p l e (rmA 0 0 0) s m args below meth c H locs 0 0 (MQ below ((QV D (wC cI cO a ad) post) A) args s 0 0 A) (F0 m 3 ls []) := by
  have hx := E.1
  have hb := E.2.1
  unfold w_X1_count4_3b at h
  refine lv_iload hx hb dX1_count_3 (lv_at hl 4 rfl) ?_
  refine lv_iload_n hx hb dX1_count_5 rfl (lv_at hl 2 rfl) ?_
  refine lv_icmp_ge (tgt := 32) hx hb dX1_count_6 (by decide) (fun hc => ?_) (fun hc => ?_)
  · have h := h.1 hc
    exact x_vret E hH h dX1_count_32
  · have h := h.2 hc
    refine lv_aload_n hx hb dX1_count_9 rfl (lv_at hl 0 rfl) ?_
    refine x_get (ci := 1) (CN := RX1) (T := TX1) (N := 2) E in_X1 hH 12 wC_g12 rfl 0 (by decide) kf_X1_9 rfl dX1_count_10 ?_
    refine lv_aload_n hx hb dX1_count_13 rfl (lv_at hl 1 rfl) ?_
    refine x_getN (ci := 0) (CN := RX0) (T := TX0) (N := 4) E in_X0 hH 4 wC_g4 rfl 0 (by decide) kfn_X1_24 rfl dX1_count_14 ?_
    refine lv_iload hx hb dX1_count_17 (lv_at hl 4 rfl) ?_
    obtain ⟨hi2, h⟩ := h
    refine x_iald E hH 5 0 wC_g5 rfl hi2 dX1_count_19 ?_
    refine lv_dup2_11 hx hb dX1_count_20 rfl rfl ?_
    obtain ⟨hi3, h⟩ := h
    refine x_iald E hH 13 0 wC_g13 rfl hi3 dX1_count_21 ?_
    refine lv_iload hx hb dX1_count_22 (lv_at hl 3 rfl) ?_
    refine lv_iadd hx hb dX1_count_24 ?_
    refine x_iast E hH 13 0 wC_g13 rfl hi3 wC_s13 dX1_count_25 (fun H locs hH => ?_)
    refine lv_iinc (v := (x5 + 1)) (lv' := [(5, .int (x5 + 1)), (0, .ref (a 12)), (1, .ref (a 4)), (3, .int x3), (4, .int x4)]) hx hb dX1_count_26 hl (k := 4) rfl rfl (by decide) rfl (fun ls hl => ?_)
    refine lv_goto (tgt := 3) hx hb dX1_count_29 (by decide) ?_
    exact hK3 _ _ _ _ _ _ _ hH (lv_sub hl [1, 2, 3, 4, 0] rfl) h
theorem k_X1_count4_3 {post : CS → Prop} (E : Cx p s m args meth c cX1_count 6 RX1 none D (tyW cI cS cO))  (n : Nat) : ∀ {C : CS} {x3 : Int32} {x4 : Int32} {x5 : Int32} {H : Heap} {locs : List Loc} {ls : Array Slot} (hH : HX D (wC cI cO a ad C) A s.heap H locs) (hl : lv_has ls 6 [(0, .ref (a 12)), (1, .ref (a 4)), (3, .int x3), (4, .int x4), (5, .int x5)]) (h : w_X1_count4_3 post n C x3 x4 x5), W p l e (rmA 0 0 0) s m args below meth c H locs 0 0 (MQ below ((QV D (wC cI cO a ad) post) A) args s 0 0 A) (F0 m 3 ls []) := by
  induction n with
  | zero => intros; contradiction
  | succ n ih => intro C x3 x4 x5 H locs ls hH hl h; exact k_X1_count4_3b E  (fun C x3 x4 x5 H locs ls hH hl h => ih hH hl h) hH hl h
set_option maxHeartbeats 4000000 in
set_option maxRecDepth 100000 in
theorem c_X1_count4 {l : Launch} {D : va_G} {cI cS cO : ClassId} {a ad : Nat → Nat} {C : CS} {x2 : Int32} {x3 : Int32} {x4 : Int32} {post : CS → Prop} (h : w_X1_count4 post C x2 x3 x4) : MetX l D (tyW cI cS cO) yX1_count cX1_count 6 none 0 0 0 [.ref (a 12), .ref (a 4), .int x2, .int x3, .int x4] (wC cI cO a ad C) (QV D (wC cI cO a ad) post) := by
  refine x_ent (by decide) (Nat.le_of_ble_eq_true rfl) ?_
  intro p e s m below meth c ls E _ hH hl
  have hx := E.1
  have hb := E.2.1
  generalize va_A (wC cI cO a ad C) s.heap.size = A at hH ⊢
  have hl : lv_has ls 6 [(0, .ref (a 12)), (1, .ref (a 4)), (2, .int x2), (3, .int x3), (4, .int x4)] := hl
  unfold w_X1_count4 at h
  refine lv_iload_n hx hb dX1_count_0 rfl (lv_at hl 2 rfl) ?_
  refine lv_istore (lv' := [(5, .int x2), (0, .ref (a 12)), (1, .ref (a 4)), (2, .int x2), (3, .int x3), (4, .int x4)]) hx hb dX1_count_1 hl (by decide) rfl (fun ls hl => ?_)
  obtain ⟨n, h⟩ := h
  exact k_X1_count4_3 E  n hH (lv_sub hl [1, 2, 4, 5, 0] rfl) h
set_option maxHeartbeats 4000000 in
set_option maxRecDepth 100000 in
theorem k_X1_count8_3b {post : CS → Prop} (E : Cx p s m args meth c cX1_count 6 RX1 none D (tyW cI cS cO))  {K3 : CS → Int32 → Int32 → Int32 → Prop} (hK3 : ∀ (C : CS) (x3 : Int32) (x4 : Int32) (x5 : Int32) (H : Heap) (locs : List Loc) (ls : Array Slot), HX D (wC cI cO a ad C) A s.heap H locs → lv_has ls 6 [(0, .ref (a 12)), (1, .ref (a 8)), (3, .int x3), (4, .int x4), (5, .int x5)] → K3 C x3 x4 x5 → W p l e (rmA 0 0 0) s m args below meth c H locs 0 0 (MQ below ((QV D (wC cI cO a ad) post) A) args s 0 0 A) (F0 m 3 ls [])) {C : CS} {x3 : Int32} {x4 : Int32} {x5 : Int32} {H : Heap} {locs : List Loc} {ls : Array Slot} (hH : HX D (wC cI cO a ad C) A s.heap H locs) (hl : lv_has ls 6 [(0, .ref (a 12)), (1, .ref (a 8)), (3, .int x3), (4, .int x4), (5, .int x5)]) (h : w_X1_count8_3b post K3 C x3 x4 x5) : W p l e (rmA 0 0 0) s m args below meth c H locs 0 0 (MQ below ((QV D (wC cI cO a ad) post) A) args s 0 0 A) (F0 m 3 ls []) := by
  have hx := E.1
  have hb := E.2.1
  unfold w_X1_count8_3b at h
  refine lv_iload hx hb dX1_count_3 (lv_at hl 4 rfl) ?_
  refine lv_iload_n hx hb dX1_count_5 rfl (lv_at hl 2 rfl) ?_
  refine lv_icmp_ge (tgt := 32) hx hb dX1_count_6 (by decide) (fun hc => ?_) (fun hc => ?_)
  · have h := h.1 hc
    exact x_vret E hH h dX1_count_32
  · have h := h.2 hc
    refine lv_aload_n hx hb dX1_count_9 rfl (lv_at hl 0 rfl) ?_
    refine x_get (ci := 1) (CN := RX1) (T := TX1) (N := 2) E in_X1 hH 12 wC_g12 rfl 0 (by decide) kf_X1_9 rfl dX1_count_10 ?_
    refine lv_aload_n hx hb dX1_count_13 rfl (lv_at hl 1 rfl) ?_
    refine x_getN (ci := 0) (CN := RX0) (T := TX0) (N := 4) E in_X0 hH 8 wC_g8 rfl 0 (by decide) kfn_X1_24 rfl dX1_count_14 ?_
    refine lv_iload hx hb dX1_count_17 (lv_at hl 4 rfl) ?_
    obtain ⟨hi2, h⟩ := h
    refine x_iald E hH 9 0 wC_g9 rfl hi2 dX1_count_19 ?_
    refine lv_dup2_11 hx hb dX1_count_20 rfl rfl ?_
    obtain ⟨hi3, h⟩ := h
    refine x_iald E hH 13 0 wC_g13 rfl hi3 dX1_count_21 ?_
    refine lv_iload hx hb dX1_count_22 (lv_at hl 3 rfl) ?_
    refine lv_iadd hx hb dX1_count_24 ?_
    refine x_iast E hH 13 0 wC_g13 rfl hi3 wC_s13 dX1_count_25 (fun H locs hH => ?_)
    refine lv_iinc (v := (x5 + 1)) (lv' := [(5, .int (x5 + 1)), (0, .ref (a 12)), (1, .ref (a 8)), (3, .int x3), (4, .int x4)]) hx hb dX1_count_26 hl (k := 4) rfl rfl (by decide) rfl (fun ls hl => ?_)
    refine lv_goto (tgt := 3) hx hb dX1_count_29 (by decide) ?_
    exact hK3 _ _ _ _ _ _ _ hH (lv_sub hl [1, 2, 3, 4, 0] rfl) h
theorem k_X1_count8_3 {post : CS → Prop} (E : Cx p s m args meth c cX1_count 6 RX1 none D (tyW cI cS cO))  (n : Nat) : ∀ {C : CS} {x3 : Int32} {x4 : Int32} {x5 : Int32} {H : Heap} {locs : List Loc} {ls : Array Slot} (hH : HX D (wC cI cO a ad C) A s.heap H locs) (hl : lv_has ls 6 [(0, .ref (a 12)), (1, .ref (a 8)), (3, .int x3), (4, .int x4), (5, .int x5)]) (h : w_X1_count8_3 post n C x3 x4 x5), W p l e (rmA 0 0 0) s m args below meth c H locs 0 0 (MQ below ((QV D (wC cI cO a ad) post) A) args s 0 0 A) (F0 m 3 ls []) := by
  induction n with
  | zero => intros; contradiction
  | succ n ih => intro C x3 x4 x5 H locs ls hH hl h; exact k_X1_count8_3b E  (fun C x3 x4 x5 H locs ls hH hl h => ih hH hl h) hH hl h
set_option maxHeartbeats 4000000 in
set_option maxRecDepth 100000 in
theorem c_X1_count8 {l : Launch} {D : va_G} {cI cS cO : ClassId} {a ad : Nat → Nat} {C : CS} {x2 : Int32} {x3 : Int32} {x4 : Int32} {post : CS → Prop} (h : w_X1_count8 post C x2 x3 x4) : MetX l D (tyW cI cS cO) yX1_count cX1_count 6 none 0 0 0 [.ref (a 12), .ref (a 8), .int x2, .int x3, .int x4] (wC cI cO a ad C) (QV D (wC cI cO a ad) post) := by
  refine x_ent (by decide) (Nat.le_of_ble_eq_true rfl) ?_
  intro p e s m below meth c ls E _ hH hl
  have hx := E.1
  have hb := E.2.1
  generalize va_A (wC cI cO a ad C) s.heap.size = A at hH ⊢
  have hl : lv_has ls 6 [(0, .ref (a 12)), (1, .ref (a 8)), (2, .int x2), (3, .int x3), (4, .int x4)] := hl
  unfold w_X1_count8 at h
  refine lv_iload_n hx hb dX1_count_0 rfl (lv_at hl 2 rfl) ?_
  refine lv_istore (lv' := [(5, .int x2), (0, .ref (a 12)), (1, .ref (a 8)), (2, .int x2), (3, .int x3), (4, .int x4)]) hx hb dX1_count_1 hl (by decide) rfl (fun ls hl => ?_)
  obtain ⟨n, h⟩ := h
  exact k_X1_count8_3 E  n hH (lv_sub hl [1, 2, 4, 5, 0] rfl) h
set_option maxHeartbeats 4000000 in
set_option maxRecDepth 100000 in
theorem k_X1_countDifferent_23 {post : Int32 → CS → Prop} (E : Cx p s m args meth c cX1_countDifferent 3 RX1 (some .int) D (tyW cI cS cO)) {K4 : CS → Int32 → Int32 → Prop} (hK4 : ∀ (C : CS) (x1 : Int32) (x2 : Int32) (H : Heap) (locs : List Loc) (ls : Array Slot), HX D (wC cI cO a ad C) A s.heap H locs → lv_has ls 3 [(0, .ref (a 12)), (1, .int x1), (2, .int x2)] → K4 C x1 x2 → W p l e (rmA 0 0 0) s m args below meth c H locs 0 0 (MQ below ((QI D (wC cI cO a ad) post) A) args s 0 0 A) (F0 m 4 ls [])) {C : CS} {x1 : Int32} {x2 : Int32} {H : Heap} {locs : List Loc} {ls : Array Slot} (hH : HX D (wC cI cO a ad C) A s.heap H locs) (hl : lv_has ls 3 [(0, .ref (a 12)), (1, .int x1), (2, .int x2)]) (h : w_X1_countDifferent_23 post K4 C x1 x2) : W p l e (rmA 0 0 0) s m args below meth c H locs 0 0 (MQ below ((QI D (wC cI cO a ad) post) A) args s 0 0 A) (F0 m 23 ls []) := by
  have hx := E.1
  have hb := E.2.1
  unfold w_X1_countDifferent_23 at h
  refine lv_iinc (v := (x2 + 1)) (lv' := [(2, .int (x2 + 1)), (0, .ref (a 12)), (1, .int x1)]) hx hb dX1_countDifferent_23 hl (k := 2) rfl rfl (by decide) rfl (fun ls hl => ?_)
  refine lv_goto (tgt := 4) hx hb dX1_countDifferent_26 (by decide) ?_
  exact hK4 _ _ _ _ _ _ hH (lv_sub hl [1, 2, 0] rfl) h
set_option maxHeartbeats 4000000 in
set_option maxRecDepth 100000 in
theorem k_X1_countDifferent_4b {post : Int32 → CS → Prop} (E : Cx p s m args meth c cX1_countDifferent 3 RX1 (some .int) D (tyW cI cS cO))  {K4 : CS → Int32 → Int32 → Prop} (hK4 : ∀ (C : CS) (x1 : Int32) (x2 : Int32) (H : Heap) (locs : List Loc) (ls : Array Slot), HX D (wC cI cO a ad C) A s.heap H locs → lv_has ls 3 [(0, .ref (a 12)), (1, .int x1), (2, .int x2)] → K4 C x1 x2 → W p l e (rmA 0 0 0) s m args below meth c H locs 0 0 (MQ below ((QI D (wC cI cO a ad) post) A) args s 0 0 A) (F0 m 4 ls [])) {C : CS} {x1 : Int32} {x2 : Int32} {H : Heap} {locs : List Loc} {ls : Array Slot} (hH : HX D (wC cI cO a ad C) A s.heap H locs) (hl : lv_has ls 3 [(0, .ref (a 12)), (1, .int x1), (2, .int x2)]) (h : w_X1_countDifferent_4b post K4 C x1 x2) : W p l e (rmA 0 0 0) s m args below meth c H locs 0 0 (MQ below ((QI D (wC cI cO a ad) post) A) args s 0 0 A) (F0 m 4 ls []) := by
  have hx := E.1
  have hb := E.2.1
  unfold w_X1_countDifferent_4b at h
  refine lv_iload_n hx hb dX1_countDifferent_4 rfl (lv_at hl 2 rfl) ?_
  refine lv_sipush (v := (1023 : Int32)) hx hb dX1_countDifferent_5 (by decide) ?_
  refine lv_icmp_gt (tgt := 29) hx hb dX1_countDifferent_8 (by decide) (fun hc => ?_) (fun hc => ?_)
  · have h := h.1 hc
    refine lv_iload_n hx hb dX1_countDifferent_29 rfl (lv_at hl 1 rfl) ?_
    exact x_iret E hH h dX1_countDifferent_30
  · have h := h.2 hc
    refine lv_aload_n hx hb dX1_countDifferent_11 rfl (lv_at hl 0 rfl) ?_
    refine x_get (ci := 1) (CN := RX1) (T := TX1) (N := 2) E in_X1 hH 12 wC_g12 rfl 0 (by decide) kf_X1_9 rfl dX1_countDifferent_12 ?_
    refine lv_iload_n hx hb dX1_countDifferent_15 rfl (lv_at hl 2 rfl) ?_
    obtain ⟨hi2, h⟩ := h
    refine x_iald E hH 13 0 wC_g13 rfl hi2 dX1_countDifferent_16 ?_
    refine lv_if_eq (tgt := 23) hx hb dX1_countDifferent_17 (by decide) (fun hc => ?_) (fun hc => ?_)
    · have h := h.1 hc
      exact k_X1_countDifferent_23 E hK4 hH (lv_sub hl [0, 1, 2] rfl) h
    · have h := h.2 hc
      refine lv_iinc (v := (x1 + 1)) (lv' := [(1, .int (x1 + 1)), (0, .ref (a 12)), (2, .int x2)]) hx hb dX1_countDifferent_20 hl (k := 1) rfl rfl (by decide) rfl (fun ls hl => ?_)
      exact k_X1_countDifferent_23 E hK4 hH (lv_sub hl [1, 0, 2] rfl) h
theorem k_X1_countDifferent_4 {post : Int32 → CS → Prop} (E : Cx p s m args meth c cX1_countDifferent 3 RX1 (some .int) D (tyW cI cS cO))  (n : Nat) : ∀ {C : CS} {x1 : Int32} {x2 : Int32} {H : Heap} {locs : List Loc} {ls : Array Slot} (hH : HX D (wC cI cO a ad C) A s.heap H locs) (hl : lv_has ls 3 [(0, .ref (a 12)), (1, .int x1), (2, .int x2)]) (h : w_X1_countDifferent_4 post n C x1 x2), W p l e (rmA 0 0 0) s m args below meth c H locs 0 0 (MQ below ((QI D (wC cI cO a ad) post) A) args s 0 0 A) (F0 m 4 ls []) := by
  induction n with
  | zero => intros; contradiction
  | succ n ih => intro C x1 x2 H locs ls hH hl h; exact k_X1_countDifferent_4b E  (fun C x1 x2 H locs ls hH hl h => ih hH hl h) hH hl h
set_option maxHeartbeats 4000000 in
set_option maxRecDepth 100000 in
theorem c_X1_countDifferent {l : Launch} {D : va_G} {cI cS cO : ClassId} {a ad : Nat → Nat} {C : CS}  {post : Int32 → CS → Prop} (h : w_X1_countDifferent post C ) : MetX l D (tyW cI cS cO) yX1_countDifferent cX1_countDifferent 3 (some .int) 0 0 0 [.ref (a 12)] (wC cI cO a ad C) (QI D (wC cI cO a ad) post) := by
  refine x_ent (by decide) (Nat.le_of_ble_eq_true rfl) ?_
  intro p e s m below meth c ls E _ hH hl
  have hx := E.1
  have hb := E.2.1
  generalize va_A (wC cI cO a ad C) s.heap.size = A at hH ⊢
  have hl : lv_has ls 3 [(0, .ref (a 12))] := hl
  unfold w_X1_countDifferent at h
  refine lv_iconst (v := (0 : Int32)) hx hb dX1_countDifferent_0 (by decide) ?_
  refine lv_istore_n (lv' := [(1, .int (0 : Int32)), (0, .ref (a 12))]) hx hb dX1_countDifferent_1 rfl hl (by decide) rfl (fun ls hl => ?_)
  refine lv_iconst (v := (0 : Int32)) hx hb dX1_countDifferent_2 (by decide) ?_
  refine lv_istore_n (lv' := [(2, .int (0 : Int32)), (1, .int (0 : Int32)), (0, .ref (a 12))]) hx hb dX1_countDifferent_3 rfl hl (by decide) rfl (fun ls hl => ?_)
  obtain ⟨n, h⟩ := h
  exact k_X1_countDifferent_4 E  n hH (lv_sub hl [2, 1, 0] rfl) h
set_option maxHeartbeats 4000000 in
set_option maxRecDepth 100000 in
theorem k_X1_leastUneven_2b {post : Int32 → CS → Prop} (E : Cx p s m args meth c cX1_leastUneven 2 RX1 (some .int) D (tyW cI cS cO))  {K2 : CS → Int32 → Prop} (hK2 : ∀ (C : CS) (x1 : Int32) (H : Heap) (locs : List Loc) (ls : Array Slot), HX D (wC cI cO a ad C) A s.heap H locs → lv_has ls 2 [(0, .ref (a 12)), (1, .int x1)] → K2 C x1 → W p l e (rmA 0 0 0) s m args below meth c H locs 0 0 (MQ below ((QI D (wC cI cO a ad) post) A) args s 0 0 A) (F0 m 2 ls [])) {C : CS} {x1 : Int32} {H : Heap} {locs : List Loc} {ls : Array Slot} (hH : HX D (wC cI cO a ad C) A s.heap H locs) (hl : lv_has ls 2 [(0, .ref (a 12)), (1, .int x1)]) (h : w_X1_leastUneven_2b post K2 C x1) : W p l e (rmA 0 0 0) s m args below meth c H locs 0 0 (MQ below ((QI D (wC cI cO a ad) post) A) args s 0 0 A) (F0 m 2 ls []) := by
  have hx := E.1
  have hb := E.2.1
  unfold w_X1_leastUneven_2b at h
  refine lv_iload_n hx hb dX1_leastUneven_2 rfl (lv_at hl 1 rfl) ?_
  refine lv_sipush (v := (1023 : Int32)) hx hb dX1_leastUneven_3 (by decide) ?_
  refine lv_icmp_gt (tgt := 26) hx hb dX1_leastUneven_6 (by decide) (fun hc => ?_) (fun hc => ?_)
  · have h := h.1 hc
    refine lv_bipush (v := (-6 : Int32)) hx hb dX1_leastUneven_26 (by decide) ?_
    exact x_iret E hH h dX1_leastUneven_28
  · have h := h.2 hc
    refine lv_aload_n hx hb dX1_leastUneven_9 rfl (lv_at hl 0 rfl) ?_
    refine x_get (ci := 1) (CN := RX1) (T := TX1) (N := 2) E in_X1 hH 12 wC_g12 rfl 0 (by decide) kf_X1_9 rfl dX1_leastUneven_10 ?_
    refine lv_iload_n hx hb dX1_leastUneven_13 rfl (lv_at hl 1 rfl) ?_
    obtain ⟨hi2, h⟩ := h
    refine x_iald E hH 13 0 wC_g13 rfl hi2 dX1_leastUneven_14 ?_
    refine lv_if_eq (tgt := 20) hx hb dX1_leastUneven_15 (by decide) (fun hc => ?_) (fun hc => ?_)
    · have h := h.1 hc
      refine lv_iinc (v := (x1 + 1)) (lv' := [(1, .int (x1 + 1)), (0, .ref (a 12))]) hx hb dX1_leastUneven_20 hl (k := 1) rfl rfl (by decide) rfl (fun ls hl => ?_)
      refine lv_goto (tgt := 2) hx hb dX1_leastUneven_23 (by decide) ?_
      exact hK2 _ _ _ _ _ hH (lv_sub hl [1, 0] rfl) h
    · have h := h.2 hc
      refine lv_iload_n hx hb dX1_leastUneven_18 rfl (lv_at hl 1 rfl) ?_
      exact x_iret E hH h dX1_leastUneven_19
theorem k_X1_leastUneven_2 {post : Int32 → CS → Prop} (E : Cx p s m args meth c cX1_leastUneven 2 RX1 (some .int) D (tyW cI cS cO))  (n : Nat) : ∀ {C : CS} {x1 : Int32} {H : Heap} {locs : List Loc} {ls : Array Slot} (hH : HX D (wC cI cO a ad C) A s.heap H locs) (hl : lv_has ls 2 [(0, .ref (a 12)), (1, .int x1)]) (h : w_X1_leastUneven_2 post n C x1), W p l e (rmA 0 0 0) s m args below meth c H locs 0 0 (MQ below ((QI D (wC cI cO a ad) post) A) args s 0 0 A) (F0 m 2 ls []) := by
  induction n with
  | zero => intros; contradiction
  | succ n ih => intro C x1 H locs ls hH hl h; exact k_X1_leastUneven_2b E  (fun C x1 H locs ls hH hl h => ih hH hl h) hH hl h
set_option maxHeartbeats 4000000 in
set_option maxRecDepth 100000 in
theorem c_X1_leastUneven {l : Launch} {D : va_G} {cI cS cO : ClassId} {a ad : Nat → Nat} {C : CS}  {post : Int32 → CS → Prop} (h : w_X1_leastUneven post C ) : MetX l D (tyW cI cS cO) yX1_leastUneven cX1_leastUneven 2 (some .int) 0 0 0 [.ref (a 12)] (wC cI cO a ad C) (QI D (wC cI cO a ad) post) := by
  refine x_ent (by decide) (Nat.le_of_ble_eq_true rfl) ?_
  intro p e s m below meth c ls E _ hH hl
  have hx := E.1
  have hb := E.2.1
  generalize va_A (wC cI cO a ad C) s.heap.size = A at hH ⊢
  have hl : lv_has ls 2 [(0, .ref (a 12))] := hl
  unfold w_X1_leastUneven at h
  refine lv_iconst (v := (0 : Int32)) hx hb dX1_leastUneven_0 (by decide) ?_
  refine lv_istore_n (lv' := [(1, .int (0 : Int32)), (0, .ref (a 12))]) hx hb dX1_leastUneven_1 rfl hl (by decide) rfl (fun ls hl => ?_)
  obtain ⟨n, h⟩ := h
  exact k_X1_leastUneven_2 E  n hH (lv_sub hl [1, 0] rfl) h
set_option maxHeartbeats 4000000 in
set_option maxRecDepth 100000 in
theorem k_X1_valueOfMoreThan_2b {post : Int32 → CS → Prop} (E : Cx p s m args meth c cX1_valueOfMoreThan 3 RX1 (some .int) D (tyW cI cS cO))  {K2 : CS → Int32 → Int32 → Prop} (hK2 : ∀ (C : CS) (x1 : Int32) (x2 : Int32) (H : Heap) (locs : List Loc) (ls : Array Slot), HX D (wC cI cO a ad C) A s.heap H locs → lv_has ls 3 [(0, .ref (a 12)), (1, .int x1), (2, .int x2)] → K2 C x1 x2 → W p l e (rmA 0 0 0) s m args below meth c H locs 0 0 (MQ below ((QI D (wC cI cO a ad) post) A) args s 0 0 A) (F0 m 2 ls [])) {C : CS} {x1 : Int32} {x2 : Int32} {H : Heap} {locs : List Loc} {ls : Array Slot} (hH : HX D (wC cI cO a ad C) A s.heap H locs) (hl : lv_has ls 3 [(0, .ref (a 12)), (1, .int x1), (2, .int x2)]) (h : w_X1_valueOfMoreThan_2b post K2 C x1 x2) : W p l e (rmA 0 0 0) s m args below meth c H locs 0 0 (MQ below ((QI D (wC cI cO a ad) post) A) args s 0 0 A) (F0 m 2 ls []) := by
  have hx := E.1
  have hb := E.2.1
  unfold w_X1_valueOfMoreThan_2b at h
  refine lv_iload_n hx hb dX1_valueOfMoreThan_2 rfl (lv_at hl 2 rfl) ?_
  refine lv_sipush (v := (1023 : Int32)) hx hb dX1_valueOfMoreThan_3 (by decide) ?_
  refine lv_icmp_gt (tgt := 27) hx hb dX1_valueOfMoreThan_6 (by decide) (fun hc => ?_) (fun hc => ?_)
  · have h := h.1 hc
    refine lv_bipush (v := (-6 : Int32)) hx hb dX1_valueOfMoreThan_27 (by decide) ?_
    exact x_iret E hH h dX1_valueOfMoreThan_29
  · have h := h.2 hc
    refine lv_aload_n hx hb dX1_valueOfMoreThan_9 rfl (lv_at hl 0 rfl) ?_
    refine x_get (ci := 1) (CN := RX1) (T := TX1) (N := 2) E in_X1 hH 12 wC_g12 rfl 0 (by decide) kf_X1_9 rfl dX1_valueOfMoreThan_10 ?_
    refine lv_iload_n hx hb dX1_valueOfMoreThan_13 rfl (lv_at hl 2 rfl) ?_
    obtain ⟨hi2, h⟩ := h
    refine x_iald E hH 13 0 wC_g13 rfl hi2 dX1_valueOfMoreThan_14 ?_
    refine lv_iload_n hx hb dX1_valueOfMoreThan_15 rfl (lv_at hl 1 rfl) ?_
    refine lv_icmp_le (tgt := 21) hx hb dX1_valueOfMoreThan_16 (by decide) (fun hc => ?_) (fun hc => ?_)
    · have h := h.1 hc
      refine lv_iinc (v := (x2 + 1)) (lv' := [(2, .int (x2 + 1)), (0, .ref (a 12)), (1, .int x1)]) hx hb dX1_valueOfMoreThan_21 hl (k := 2) rfl rfl (by decide) rfl (fun ls hl => ?_)
      refine lv_goto (tgt := 2) hx hb dX1_valueOfMoreThan_24 (by decide) ?_
      exact hK2 _ _ _ _ _ _ hH (lv_sub hl [1, 2, 0] rfl) h
    · have h := h.2 hc
      refine lv_iload_n hx hb dX1_valueOfMoreThan_19 rfl (lv_at hl 2 rfl) ?_
      exact x_iret E hH h dX1_valueOfMoreThan_20
theorem k_X1_valueOfMoreThan_2 {post : Int32 → CS → Prop} (E : Cx p s m args meth c cX1_valueOfMoreThan 3 RX1 (some .int) D (tyW cI cS cO))  (n : Nat) : ∀ {C : CS} {x1 : Int32} {x2 : Int32} {H : Heap} {locs : List Loc} {ls : Array Slot} (hH : HX D (wC cI cO a ad C) A s.heap H locs) (hl : lv_has ls 3 [(0, .ref (a 12)), (1, .int x1), (2, .int x2)]) (h : w_X1_valueOfMoreThan_2 post n C x1 x2), W p l e (rmA 0 0 0) s m args below meth c H locs 0 0 (MQ below ((QI D (wC cI cO a ad) post) A) args s 0 0 A) (F0 m 2 ls []) := by
  induction n with
  | zero => intros; contradiction
  | succ n ih => intro C x1 x2 H locs ls hH hl h; exact k_X1_valueOfMoreThan_2b E  (fun C x1 x2 H locs ls hH hl h => ih hH hl h) hH hl h
set_option maxHeartbeats 4000000 in
set_option maxRecDepth 100000 in
theorem c_X1_valueOfMoreThan {l : Launch} {D : va_G} {cI cS cO : ClassId} {a ad : Nat → Nat} {C : CS} {x1 : Int32} {post : Int32 → CS → Prop} (h : w_X1_valueOfMoreThan post C x1) : MetX l D (tyW cI cS cO) yX1_valueOfMoreThan cX1_valueOfMoreThan 3 (some .int) 0 0 0 [.ref (a 12), .int x1] (wC cI cO a ad C) (QI D (wC cI cO a ad) post) := by
  refine x_ent (by decide) (Nat.le_of_ble_eq_true rfl) ?_
  intro p e s m below meth c ls E _ hH hl
  have hx := E.1
  have hb := E.2.1
  generalize va_A (wC cI cO a ad C) s.heap.size = A at hH ⊢
  have hl : lv_has ls 3 [(0, .ref (a 12)), (1, .int x1)] := hl
  unfold w_X1_valueOfMoreThan at h
  refine lv_iconst (v := (0 : Int32)) hx hb dX1_valueOfMoreThan_0 (by decide) ?_
  refine lv_istore_n (lv' := [(2, .int (0 : Int32)), (0, .ref (a 12)), (1, .int x1)]) hx hb dX1_valueOfMoreThan_1 rfl hl (by decide) rfl (fun ls hl => ?_)
  obtain ⟨n, h⟩ := h
  exact k_X1_valueOfMoreThan_2 E  n hH (lv_sub hl [1, 2, 0] rfl) h
set_option maxHeartbeats 4000000 in
set_option maxRecDepth 100000 in
theorem k_X1_groupByCount_10b {post : CS → Prop} (E : Cx p s m args meth c cX1_groupByCount 2 RX1 none D (tyW cI cS cO))  {K10 : CS → Int32 → Prop} (hK10 : ∀ (C : CS) (x1 : Int32) (H : Heap) (locs : List Loc) (ls : Array Slot), HX D (wC cI cO a ad C) A s.heap H locs → lv_has ls 2 [(0, .ref (a 12)), (1, .int x1)] → K10 C x1 → W p l e (rmA 1 0 0) s m args below meth c H locs 0 0 (MQ below ((QV D (wC cI cO a ad) post) A) args s 0 0 A) (F0 m 10 ls [])) {C : CS} {x1 : Int32} {H : Heap} {locs : List Loc} {ls : Array Slot} (hH : HX D (wC cI cO a ad C) A s.heap H locs) (hl : lv_has ls 2 [(0, .ref (a 12)), (1, .int x1)]) (h : w_X1_groupByCount_10b post K10 C x1) : W p l e (rmA 1 0 0) s m args below meth c H locs 0 0 (MQ below ((QV D (wC cI cO a ad) post) A) args s 0 0 A) (F0 m 10 ls []) := by
  have hx := E.1
  have hb := E.2.1
  unfold w_X1_groupByCount_10b at h
  refine lv_iload_n hx hb dX1_groupByCount_10 rfl (lv_at hl 1 rfl) ?_
  refine lv_sipush (v := (1023 : Int32)) hx hb dX1_groupByCount_11 (by decide) ?_
  refine lv_icmp_gt (tgt := 38) hx hb dX1_groupByCount_14 (by decide) (fun hc => ?_) (fun hc => ?_)
  · have h := h.1 hc
    exact x_vret E hH h dX1_groupByCount_38
  · have h := h.2 hc
    refine lv_aload_n hx hb dX1_groupByCount_17 rfl (lv_at hl 0 rfl) ?_
    refine x_get (ci := 1) (CN := RX1) (T := TX1) (N := 2) E in_X1 hH 12 wC_g12 rfl 1 (by decide) kf_X1_15 rfl dX1_groupByCount_18 ?_
    refine lv_aload_n hx hb dX1_groupByCount_21 rfl (lv_at hl 0 rfl) ?_
    refine x_get (ci := 1) (CN := RX1) (T := TX1) (N := 2) E in_X1 hH 12 wC_g12 rfl 0 (by decide) kf_X1_9 rfl dX1_groupByCount_22 ?_
    refine lv_iload_n hx hb dX1_groupByCount_25 rfl (lv_at hl 1 rfl) ?_
    obtain ⟨hi4, h⟩ := h
    refine x_iald E hH 13 0 wC_g13 rfl hi4 dX1_groupByCount_26 ?_
    refine lv_dup2_11 hx hb dX1_groupByCount_27 rfl rfl ?_
    obtain ⟨hi5, h⟩ := h
    refine x_iald E hH 14 0 wC_g14 rfl hi5 dX1_groupByCount_28 ?_
    refine lv_iconst (v := (1 : Int32)) hx hb dX1_groupByCount_29 (by decide) ?_
    refine lv_iadd hx hb dX1_groupByCount_30 ?_
    refine x_iast E hH 14 0 wC_g14 rfl hi5 wC_s14 dX1_groupByCount_31 (fun H locs hH => ?_)
    refine lv_iinc (v := (x1 + 1)) (lv' := [(1, .int (x1 + 1)), (0, .ref (a 12))]) hx hb dX1_groupByCount_32 hl (k := 1) rfl rfl (by decide) rfl (fun ls hl => ?_)
    refine lv_goto (tgt := 10) hx hb dX1_groupByCount_35 (by decide) ?_
    exact hK10 _ _ _ _ _ hH (lv_sub hl [1, 0] rfl) h
theorem k_X1_groupByCount_10 {post : CS → Prop} (E : Cx p s m args meth c cX1_groupByCount 2 RX1 none D (tyW cI cS cO))  (n : Nat) : ∀ {C : CS} {x1 : Int32} {H : Heap} {locs : List Loc} {ls : Array Slot} (hH : HX D (wC cI cO a ad C) A s.heap H locs) (hl : lv_has ls 2 [(0, .ref (a 12)), (1, .int x1)]) (h : w_X1_groupByCount_10 post n C x1), W p l e (rmA 1 0 0) s m args below meth c H locs 0 0 (MQ below ((QV D (wC cI cO a ad) post) A) args s 0 0 A) (F0 m 10 ls []) := by
  induction n with
  | zero => intros; contradiction
  | succ n ih => intro C x1 H locs ls hH hl h; exact k_X1_groupByCount_10b E  (fun C x1 H locs ls hH hl h => ih hH hl h) hH hl h
set_option maxHeartbeats 4000000 in
set_option maxRecDepth 100000 in
theorem c_X1_groupByCount {l : Launch} {D : va_G} {cI cS cO : ClassId} {a ad : Nat → Nat} {C : CS}  {post : CS → Prop} (h : w_X1_groupByCount post C ) : MetX l D (tyW cI cS cO) yX1_groupByCount cX1_groupByCount 2 none 1 0 0 [.ref (a 12)] (wC cI cO a ad C) (QV D (wC cI cO a ad) post) := by
  refine x_ent (by decide) (Nat.le_of_ble_eq_true rfl) ?_
  intro p e s m below meth c ls E _ hH hl
  have hx := E.1
  have hb := E.2.1
  generalize va_A (wC cI cO a ad C) s.heap.size = A at hH ⊢
  have hl : lv_has ls 2 [(0, .ref (a 12))] := hl
  unfold w_X1_groupByCount at h
  refine lv_aload_n hx hb dX1_groupByCount_0 rfl (lv_at hl 0 rfl) ?_
  refine x_get (ci := 1) (CN := RX1) (T := TX1) (N := 2) E in_X1 hH 12 wC_g12 rfl 1 (by decide) kf_X1_15 rfl dX1_groupByCount_1 ?_
  refine lv_iconst (v := (0 : Int32)) hx hb dX1_groupByCount_4 (by decide) ?_
  refine x_cv (x_runS (As := [.ref (a 14), .int (0 : Int32)]) (rest := []) E (c_J7_fill14 h) yk_J7_fill_53178 yi_J7_fill_53178 km_X1_18 ⟨Nat.le_of_ble_eq_true rfl, Nat.le_of_ble_eq_true rfl⟩ ⟨Nat.le_of_ble_eq_true rfl, Nat.le_of_ble_eq_true rfl⟩ hH  hl.1 rfl rfl (lv_room (Nat.le_of_ble_eq_true rfl)) dX1_groupByCount_5) hH (fun C1 H locs h hH => ?_)
  refine lv_iconst (v := (0 : Int32)) hx hb dX1_groupByCount_8 (by decide) ?_
  refine lv_istore_n (lv' := [(1, .int (0 : Int32)), (0, .ref (a 12))]) hx hb dX1_groupByCount_9 rfl hl (by decide) rfl (fun ls hl => ?_)
  obtain ⟨n, h⟩ := h
  exact k_X1_groupByCount_10 E  n hH (lv_sub hl [1, 0] rfl) h
set_option maxHeartbeats 4000000 in
set_option maxRecDepth 100000 in
theorem k_X1_valueOfCount_34 {post : Int32 → CS → Prop} (E : Cx p s m args meth c cX1_valueOfCount 5 RX1 (some .int) D (tyW cI cS cO)) {K5 : CS → Int32 → Int32 → Int32 → Prop} (hK5 : ∀ (C : CS) (x1 : Int32) (x3 : Int32) (x4 : Int32) (H : Heap) (locs : List Loc) (ls : Array Slot), HX D (wC cI cO a ad C) A s.heap H locs → lv_has ls 5 [(0, .ref (a 12)), (1, .int x1), (3, .int x3), (4, .int x4)] → K5 C x1 x3 x4 → W p l e (rmA 0 0 0) s m args below meth c H locs 0 0 (MQ below ((QI D (wC cI cO a ad) post) A) args s 0 0 A) (F0 m 5 ls [])) {C : CS} {x1 : Int32} {x3 : Int32} {x4 : Int32} {H : Heap} {locs : List Loc} {ls : Array Slot} (hH : HX D (wC cI cO a ad C) A s.heap H locs) (hl : lv_has ls 5 [(0, .ref (a 12)), (1, .int x1), (3, .int x3), (4, .int x4)]) (h : w_X1_valueOfCount_34 post K5 C x1 x3 x4) : W p l e (rmA 0 0 0) s m args below meth c H locs 0 0 (MQ below ((QI D (wC cI cO a ad) post) A) args s 0 0 A) (F0 m 34 ls []) := by
  have hx := E.1
  have hb := E.2.1
  unfold w_X1_valueOfCount_34 at h
  refine lv_iinc (v := (x4 + 1)) (lv' := [(4, .int (x4 + 1)), (0, .ref (a 12)), (1, .int x1), (3, .int x3)]) hx hb dX1_valueOfCount_34 hl (k := 3) rfl rfl (by decide) rfl (fun ls hl => ?_)
  refine lv_goto (tgt := 5) hx hb dX1_valueOfCount_37 (by decide) ?_
  exact hK5 _ _ _ _ _ _ _ hH (lv_sub hl [1, 2, 3, 0] rfl) h
set_option maxHeartbeats 4000000 in
set_option maxRecDepth 100000 in
theorem k_X1_valueOfCount_5b {post : Int32 → CS → Prop} (E : Cx p s m args meth c cX1_valueOfCount 5 RX1 (some .int) D (tyW cI cS cO))  {K5 : CS → Int32 → Int32 → Int32 → Prop} (hK5 : ∀ (C : CS) (x1 : Int32) (x3 : Int32) (x4 : Int32) (H : Heap) (locs : List Loc) (ls : Array Slot), HX D (wC cI cO a ad C) A s.heap H locs → lv_has ls 5 [(0, .ref (a 12)), (1, .int x1), (3, .int x3), (4, .int x4)] → K5 C x1 x3 x4 → W p l e (rmA 0 0 0) s m args below meth c H locs 0 0 (MQ below ((QI D (wC cI cO a ad) post) A) args s 0 0 A) (F0 m 5 ls [])) {C : CS} {x1 : Int32} {x3 : Int32} {x4 : Int32} {H : Heap} {locs : List Loc} {ls : Array Slot} (hH : HX D (wC cI cO a ad C) A s.heap H locs) (hl : lv_has ls 5 [(0, .ref (a 12)), (1, .int x1), (3, .int x3), (4, .int x4)]) (h : w_X1_valueOfCount_5b post K5 C x1 x3 x4) : W p l e (rmA 0 0 0) s m args below meth c H locs 0 0 (MQ below ((QI D (wC cI cO a ad) post) A) args s 0 0 A) (F0 m 5 ls []) := by
  have hx := E.1
  have hb := E.2.1
  unfold w_X1_valueOfCount_5b at h
  refine lv_iload hx hb dX1_valueOfCount_5 (lv_at hl 3 rfl) ?_
  refine lv_sipush (v := (1023 : Int32)) hx hb dX1_valueOfCount_7 (by decide) ?_
  refine lv_icmp_gt (tgt := 40) hx hb dX1_valueOfCount_10 (by decide) (fun hc => ?_) (fun hc => ?_)
  · have h := h.1 hc
    refine lv_bipush (v := (-6 : Int32)) hx hb dX1_valueOfCount_40 (by decide) ?_
    exact x_iret E hH h dX1_valueOfCount_42
  · have h := h.2 hc
    refine lv_aload_n hx hb dX1_valueOfCount_13 rfl (lv_at hl 0 rfl) ?_
    refine x_get (ci := 1) (CN := RX1) (T := TX1) (N := 2) E in_X1 hH 12 wC_g12 rfl 0 (by decide) kf_X1_9 rfl dX1_valueOfCount_14 ?_
    refine lv_iload hx hb dX1_valueOfCount_17 (lv_at hl 3 rfl) ?_
    obtain ⟨hi2, h⟩ := h
    refine x_iald E hH 13 0 wC_g13 rfl hi2 dX1_valueOfCount_19 ?_
    refine lv_iload_n hx hb dX1_valueOfCount_20 rfl (lv_at hl 1 rfl) ?_
    refine lv_icmp_ne (tgt := 34) hx hb dX1_valueOfCount_21 (by decide) (fun hc => ?_) (fun hc => ?_)
    · have h := h.1 hc
      exact k_X1_valueOfCount_34 E hK5 hH (lv_sub hl [0, 1, 2, 3] rfl) h
    · have h := h.2 hc
      refine lv_iload_n hx hb dX1_valueOfCount_24 rfl (lv_at hl 2 rfl) ?_
      refine lv_if_ne (tgt := 31) hx hb dX1_valueOfCount_25 (by decide) (fun hc => ?_) (fun hc => ?_)
      · have h := h.1 hc
        refine lv_iinc (v := (x3 + (-1))) (lv' := [(3, .int (x3 + (-1))), (0, .ref (a 12)), (1, .int x1), (4, .int x4)]) hx hb dX1_valueOfCount_31 hl (k := 2) rfl rfl (by decide) rfl (fun ls hl => ?_)
        exact k_X1_valueOfCount_34 E hK5 hH (lv_sub hl [1, 2, 0, 3] rfl) h
      · have h := h.2 hc
        refine lv_iload hx hb dX1_valueOfCount_28 (lv_at hl 3 rfl) ?_
        exact x_iret E hH h dX1_valueOfCount_30
theorem k_X1_valueOfCount_5 {post : Int32 → CS → Prop} (E : Cx p s m args meth c cX1_valueOfCount 5 RX1 (some .int) D (tyW cI cS cO))  (n : Nat) : ∀ {C : CS} {x1 : Int32} {x3 : Int32} {x4 : Int32} {H : Heap} {locs : List Loc} {ls : Array Slot} (hH : HX D (wC cI cO a ad C) A s.heap H locs) (hl : lv_has ls 5 [(0, .ref (a 12)), (1, .int x1), (3, .int x3), (4, .int x4)]) (h : w_X1_valueOfCount_5 post n C x1 x3 x4), W p l e (rmA 0 0 0) s m args below meth c H locs 0 0 (MQ below ((QI D (wC cI cO a ad) post) A) args s 0 0 A) (F0 m 5 ls []) := by
  induction n with
  | zero => intros; contradiction
  | succ n ih => intro C x1 x3 x4 H locs ls hH hl h; exact k_X1_valueOfCount_5b E  (fun C x1 x3 x4 H locs ls hH hl h => ih hH hl h) hH hl h
set_option maxHeartbeats 4000000 in
set_option maxRecDepth 100000 in
theorem c_X1_valueOfCount {l : Launch} {D : va_G} {cI cS cO : ClassId} {a ad : Nat → Nat} {C : CS} {x1 : Int32} {x2 : Int32} {post : Int32 → CS → Prop} (h : w_X1_valueOfCount post C x1 x2) : MetX l D (tyW cI cS cO) yX1_valueOfCount cX1_valueOfCount 5 (some .int) 0 0 0 [.ref (a 12), .int x1, .int x2] (wC cI cO a ad C) (QI D (wC cI cO a ad) post) := by
  refine x_ent (by decide) (Nat.le_of_ble_eq_true rfl) ?_
  intro p e s m below meth c ls E _ hH hl
  have hx := E.1
  have hb := E.2.1
  generalize va_A (wC cI cO a ad C) s.heap.size = A at hH ⊢
  have hl : lv_has ls 5 [(0, .ref (a 12)), (1, .int x1), (2, .int x2)] := hl
  unfold w_X1_valueOfCount at h
  refine lv_iload_n hx hb dX1_valueOfCount_0 rfl (lv_at hl 2 rfl) ?_
  refine lv_istore_n (lv' := [(3, .int x2), (0, .ref (a 12)), (1, .int x1), (2, .int x2)]) hx hb dX1_valueOfCount_1 rfl hl (by decide) rfl (fun ls hl => ?_)
  refine lv_iconst (v := (0 : Int32)) hx hb dX1_valueOfCount_2 (by decide) ?_
  refine lv_istore (lv' := [(4, .int (0 : Int32)), (3, .int x2), (0, .ref (a 12)), (1, .int x1), (2, .int x2)]) hx hb dX1_valueOfCount_3 hl (by decide) rfl (fun ls hl => ?_)
  obtain ⟨n, h⟩ := h
  exact k_X1_valueOfCount_5 E  n hH (lv_sub hl [2, 3, 1, 0] rfl) h
set_option maxHeartbeats 4000000 in
set_option maxRecDepth 100000 in
theorem k_X1_oftenest_17b {post : Int32 → CS → Prop} (E : Cx p s m args meth c cX1_oftenest 4 RX1 (some .int) D (tyW cI cS cO))  {K17 : CS → Int32 → Int32 → Prop} (hK17 : ∀ (C : CS) (x2 : Int32) (x3 : Int32) (H : Heap) (locs : List Loc) (ls : Array Slot), HX D (wC cI cO a ad C) A s.heap H locs → lv_has ls 4 [(0, .ref (a 12)), (2, .int x2), (3, .int x3)] → K17 C x2 x3 → W p l e (rmA 2 0 0) s m args below meth c H locs 0 0 (MQ below ((QI D (wC cI cO a ad) post) A) args s 0 0 A) (F0 m 17 ls [])) {C : CS} {x2 : Int32} {x3 : Int32} {H : Heap} {locs : List Loc} {ls : Array Slot} (hH : HX D (wC cI cO a ad C) A s.heap H locs) (hl : lv_has ls 4 [(0, .ref (a 12)), (2, .int x2), (3, .int x3)]) (h : w_X1_oftenest_17b post K17 C x2 x3) : W p l e (rmA 2 0 0) s m args below meth c H locs 0 0 (MQ below ((QI D (wC cI cO a ad) post) A) args s 0 0 A) (F0 m 17 ls []) := by
  have hx := E.1
  have hb := E.2.1
  unfold w_X1_oftenest_17b at h
  refine lv_iload_n hx hb dX1_oftenest_17 rfl (lv_at hl 2 rfl) ?_
  refine lv_if_le (tgt := 53) hx hb dX1_oftenest_18 (by decide) (fun hc => ?_) (fun hc => ?_)
  · have h := h.1 hc
    refine lv_bipush (v := (-6 : Int32)) hx hb dX1_oftenest_53 (by decide) ?_
    exact x_iret E hH h dX1_oftenest_55
  · have h := h.2 hc
    refine lv_iload_n hx hb dX1_oftenest_21 rfl (lv_at hl 1 rfl) ?_
    refine lv_aload_n hx hb dX1_oftenest_22 rfl (lv_at hl 0 rfl) ?_
    refine x_get (ci := 1) (CN := RX1) (T := TX1) (N := 2) E in_X1 hH 12 wC_g12 rfl 1 (by decide) kf_X1_15 rfl dX1_oftenest_23 ?_
    refine lv_iload_n hx hb dX1_oftenest_26 rfl (lv_at hl 2 rfl) ?_
    obtain ⟨hi4, h⟩ := h
    refine x_iald E hH 14 0 wC_g14 rfl hi4 dX1_oftenest_27 ?_
    refine lv_icmp_ge (tgt := 38) hx hb dX1_oftenest_28 (by decide) (fun hc => ?_) (fun hc => ?_)
    · have h := h.1 hc
      refine lv_iload_n hx hb dX1_oftenest_38 rfl (lv_at hl 1 rfl) ?_
      refine lv_aload_n hx hb dX1_oftenest_39 rfl (lv_at hl 0 rfl) ?_
      refine x_get (ci := 1) (CN := RX1) (T := TX1) (N := 2) E in_X1 hH 12 wC_g12 rfl 1 (by decide) kf_X1_15 rfl dX1_oftenest_40 ?_
      refine lv_iload_n hx hb dX1_oftenest_43 rfl (lv_at hl 2 rfl) ?_
      refine x_iald E hH 14 0 wC_g14 rfl hi4 dX1_oftenest_44 ?_
      refine lv_isub hx hb dX1_oftenest_45 ?_
      refine lv_istore_n (lv' := [(2, .int (x2 - ((cr C 14) (Int32.toNatClampNeg x3)))), (0, .ref (a 12)), (3, .int x3)]) hx hb dX1_oftenest_46 rfl hl (by decide) rfl (fun ls hl => ?_)
      refine lv_iinc (v := (x3 + (-1))) (lv' := [(3, .int (x3 + (-1))), (2, .int (x2 - ((cr C 14) (Int32.toNatClampNeg x3)))), (0, .ref (a 12))]) hx hb dX1_oftenest_47 hl (k := 2) rfl rfl (by decide) rfl (fun ls hl => ?_)
      refine lv_goto (tgt := 17) hx hb dX1_oftenest_50 (by decide) ?_
      exact hK17 _ _ _ _ _ _ hH (lv_sub hl [2, 1, 0] rfl) h
    · have h := h.2 hc
      refine lv_aload_n hx hb dX1_oftenest_31 rfl (lv_at hl 0 rfl) ?_
      refine lv_iload_n hx hb dX1_oftenest_32 rfl (lv_at hl 2 rfl) ?_
      refine lv_iload_n hx hb dX1_oftenest_33 rfl (lv_at hl 1 rfl) ?_
      refine x_ci (x_runV (As := [.int x3, .int x2]) (rest := []) E (c_X1_valueOfCount h) yk_X1_valueOfCount yi_X1_valueOfCount km_X1_32 ⟨Nat.le_of_ble_eq_true rfl, Nat.le_of_ble_eq_true rfl⟩ ⟨Nat.le_of_ble_eq_true rfl, Nat.le_of_ble_eq_true rfl⟩ hH (va_recv E.2.2.2.2.2.1 hH.1 (ci := 1) (q0 := 12) rfl wC_g12) hl.1 rfl rfl (lv_room (Nat.le_of_ble_eq_true rfl)) dX1_oftenest_34) hH (fun r6 C5 H locs h hH => ?_)
      exact x_iret E hH h dX1_oftenest_37
theorem k_X1_oftenest_17 {post : Int32 → CS → Prop} (E : Cx p s m args meth c cX1_oftenest 4 RX1 (some .int) D (tyW cI cS cO))  (n : Nat) : ∀ {C : CS} {x2 : Int32} {x3 : Int32} {H : Heap} {locs : List Loc} {ls : Array Slot} (hH : HX D (wC cI cO a ad C) A s.heap H locs) (hl : lv_has ls 4 [(0, .ref (a 12)), (2, .int x2), (3, .int x3)]) (h : w_X1_oftenest_17 post n C x2 x3), W p l e (rmA 2 0 0) s m args below meth c H locs 0 0 (MQ below ((QI D (wC cI cO a ad) post) A) args s 0 0 A) (F0 m 17 ls []) := by
  induction n with
  | zero => intros; contradiction
  | succ n ih => intro C x2 x3 H locs ls hH hl h; exact k_X1_oftenest_17b E  (fun C x2 x3 H locs ls hH hl h => ih hH hl h) hH hl h
set_option maxHeartbeats 4000000 in
set_option maxRecDepth 100000 in
theorem c_X1_oftenest {l : Launch} {D : va_G} {cI cS cO : ClassId} {a ad : Nat → Nat} {C : CS} {x1 : Int32} {post : Int32 → CS → Prop} (h : w_X1_oftenest post C x1) : MetX l D (tyW cI cS cO) yX1_oftenest cX1_oftenest 4 (some .int) 2 0 0 [.ref (a 12), .int x1] (wC cI cO a ad C) (QI D (wC cI cO a ad) post) := by
  refine x_ent (by decide) (Nat.le_of_ble_eq_true rfl) ?_
  intro p e s m below meth c ls E _ hH hl
  have hx := E.1
  have hb := E.2.1
  generalize va_A (wC cI cO a ad C) s.heap.size = A at hH ⊢
  have hl : lv_has ls 4 [(0, .ref (a 12)), (1, .int x1)] := hl
  unfold w_X1_oftenest at h
  refine lv_iload_n hx hb dX1_oftenest_0 rfl (lv_at hl 1 rfl) ?_
  refine lv_if_ge (tgt := 7) hx hb dX1_oftenest_1 (by decide) (fun hc => ?_) (fun hc => ?_)
  · have h := h.1 hc
    refine lv_aload_n hx hb dX1_oftenest_7 rfl (lv_at hl 0 rfl) ?_
    refine x_cv (x_runV (As := []) (rest := []) E (c_X1_groupByCount h) yk_X1_groupByCount yi_X1_groupByCount km_X1_29 ⟨Nat.le_of_ble_eq_true rfl, Nat.le_of_ble_eq_true rfl⟩ ⟨Nat.le_of_ble_eq_true rfl, Nat.le_of_ble_eq_true rfl⟩ hH (va_recv E.2.2.2.2.2.1 hH.1 (ci := 1) (q0 := 12) rfl wC_g12) hl.1 rfl rfl (lv_room (Nat.le_of_ble_eq_true rfl)) dX1_oftenest_8) hH (fun C1 H locs h hH => ?_)
    refine lv_iload_n hx hb dX1_oftenest_11 rfl (lv_at hl 1 rfl) ?_
    refine lv_istore_n (lv' := [(2, .int x1), (0, .ref (a 12)), (1, .int x1)]) hx hb dX1_oftenest_12 rfl hl (by decide) rfl (fun ls hl => ?_)
    refine lv_sipush (v := (400 : Int32)) hx hb dX1_oftenest_13 (by decide) ?_
    refine lv_istore_n (lv' := [(3, .int (400 : Int32)), (2, .int x1), (0, .ref (a 12)), (1, .int x1)]) hx hb dX1_oftenest_16 rfl hl (by decide) rfl (fun ls hl => ?_)
    obtain ⟨n, h⟩ := h
    exact k_X1_oftenest_17 E  n hH (lv_sub hl [2, 1, 0] rfl) h
  · have h := h.2 hc
    refine lv_bipush (v := (-6 : Int32)) hx hb dX1_oftenest_4 (by decide) ?_
    exact x_iret E hH h dX1_oftenest_6
set_option maxHeartbeats 4000000 in
set_option maxRecDepth 100000 in
theorem c_X2_writeOwn {l : Launch} {D : va_G} {cI cS cO : ClassId} {a ad : Nat → Nat} {C : CS} {v0 : Nat} {x1 : Int32} {x2 : Int32} {x3 : Int32} {post : CS → Prop} (h : w_X2_writeOwn post C v0 x1 x2 x3) : MetX l D (tyW cI cS cO) yX2_writeOwn cX2_writeOwn 4 none 0 0 0 [.ref (ad (3 * v0)), .int x1, .int x2, .int x3] (wC cI cO a ad C) (QV D (wC cI cO a ad) post) := by
  refine x_ent (by decide) (Nat.le_of_ble_eq_true rfl) ?_
  intro p e s m below meth c ls E _ hH hl
  have hx := E.1
  have hb := E.2.1
  generalize va_A (wC cI cO a ad C) s.heap.size = A at hH ⊢
  have hl : lv_has ls 4 [(0, .ref (ad (3 * v0))), (1, .int x1), (2, .int x2), (3, .int x3)] := hl
  unfold w_X2_writeOwn at h
  refine lv_iload_n hx hb dX2_writeOwn_0 rfl (lv_at hl 1 rfl) ?_
  refine lv_if_lt (tgt := 36) hx hb dX2_writeOwn_1 (by decide) (fun hc => ?_) (fun hc => ?_)
  · have h := h.1 hc
    exact x_vret E hH h dX2_writeOwn_36
  · have h := h.2 hc
    refine lv_iload_n hx hb dX2_writeOwn_4 rfl (lv_at hl 1 rfl) ?_
    refine lv_aload_n hx hb dX2_writeOwn_5 rfl (lv_at hl 0 rfl) ?_
    obtain ⟨hv1, h⟩ := h
    refine x_get (ci := 2) (CN := RX2) (T := TX2) (N := 9) E in_X2 hH (17 + 3 * v0) (wC_v0 hv1) rfl 4 (by decide) kf_X2_29 rfl dX2_writeOwn_6 ?_
    refine x_alen E hH (17 + (3 * v0 + 1)) 0 (wC_v1 hv1) rfl dX2_writeOwn_9 ?_
    refine lv_icmp_ge (tgt := 36) hx hb dX2_writeOwn_10 (by decide) (fun hc => ?_) (fun hc => ?_)
    · have h := h.1 hc
      exact x_vret E hH h dX2_writeOwn_36
    · have h := h.2 hc
      refine lv_iload_n hx hb dX2_writeOwn_13 rfl (lv_at hl 1 rfl) ?_
      refine lv_aload_n hx hb dX2_writeOwn_14 rfl (lv_at hl 0 rfl) ?_
      refine x_get (ci := 2) (CN := RX2) (T := TX2) (N := 9) E in_X2 hH (17 + 3 * v0) (wC_v0 hv1) rfl 5 (by decide) kf_X2_33 rfl dX2_writeOwn_15 ?_
      refine x_alen E hH (17 + (3 * v0 + 2)) 0 (wC_v2 hv1) rfl dX2_writeOwn_18 ?_
      refine lv_icmp_ge (tgt := 36) hx hb dX2_writeOwn_19 (by decide) (fun hc => ?_) (fun hc => ?_)
      · have h := h.1 hc
        exact x_vret E hH h dX2_writeOwn_36
      · have h := h.2 hc
        refine lv_aload_n hx hb dX2_writeOwn_22 rfl (lv_at hl 0 rfl) ?_
        refine x_get (ci := 2) (CN := RX2) (T := TX2) (N := 9) E in_X2 hH (17 + 3 * v0) (wC_v0 hv1) rfl 4 (by decide) kf_X2_29 rfl dX2_writeOwn_23 ?_
        refine lv_iload_n hx hb dX2_writeOwn_26 rfl (lv_at hl 1 rfl) ?_
        refine lv_iload_n hx hb dX2_writeOwn_27 rfl (lv_at hl 2 rfl) ?_
        obtain ⟨hi2, h⟩ := h
        refine x_iast E hH (17 + (3 * v0 + 1)) 0 (wC_v1 hv1) rfl hi2 (wC_sv hv1) dX2_writeOwn_28 (fun H locs hH => ?_)
        refine lv_aload_n hx hb dX2_writeOwn_29 rfl (lv_at hl 0 rfl) ?_
        refine x_get (ci := 2) (CN := RX2) (T := TX2) (N := 9) E in_X2 hH (17 + 3 * v0) (wC_v0 hv1) rfl 5 (by decide) kf_X2_33 rfl dX2_writeOwn_30 ?_
        refine lv_iload_n hx hb dX2_writeOwn_33 rfl (lv_at hl 1 rfl) ?_
        refine lv_iload_n hx hb dX2_writeOwn_34 rfl (lv_at hl 3 rfl) ?_
        refine x_iast E hH (17 + (3 * v0 + 2)) 0 (wC_v2 hv1) rfl hi2 (wC_sw hv1) dX2_writeOwn_35 (fun H locs hH => ?_)
        exact x_vret E hH h dX2_writeOwn_36
set_option maxHeartbeats 4000000 in
set_option maxRecDepth 100000 in
theorem c_X3_told {l : Launch} {D : va_G} {cI cS cO : ClassId} {a ad : Nat → Nat} {C : CS} {x1 : Int32} {post : Int32 → CS → Prop} (h : w_X3_told post C x1) : MetX l D (tyW cI cS cO) yX3_told cX3_told 2 (some .int) 0 0 0 [.ref (a 0), .int x1] (wC cI cO a ad C) (QI D (wC cI cO a ad) post) := by
  refine x_ent (by decide) (Nat.le_of_ble_eq_true rfl) ?_
  intro p e s m below meth c ls E _ hH hl
  have hx := E.1
  have hb := E.2.1
  generalize va_A (wC cI cO a ad C) s.heap.size = A at hH ⊢
  have hl : lv_has ls 2 [(0, .ref (a 0)), (1, .int x1)] := hl
  unfold w_X3_told at h
  refine lv_iload_n hx hb dX3_told_0 rfl (lv_at hl 1 rfl) ?_
  refine lv_iconst (v := (-1 : Int32)) hx hb dX3_told_1 (by decide) ?_
  refine lv_icmp_gt (tgt := 22) hx hb dX3_told_2 (by decide) (fun hc => ?_) (fun hc => ?_)
  · have h := h.1 hc
    refine lv_iload_n hx hb dX3_told_22 rfl (lv_at hl 1 rfl) ?_
    exact x_iret E hH h dX3_told_23
  · have h := h.2 hc
    refine lv_iload_n hx hb dX3_told_5 rfl (lv_at hl 1 rfl) ?_
    refine lv_bipush (v := (-6 : Int32)) hx hb dX3_told_6 (by decide) ?_
    refine lv_icmp_lt (tgt := 22) hx hb dX3_told_8 (by decide) (fun hc => ?_) (fun hc => ?_)
    · have h := h.1 hc
      refine lv_iload_n hx hb dX3_told_22 rfl (lv_at hl 1 rfl) ?_
      exact x_iret E hH h dX3_told_23
    · have h := h.2 hc
      refine lv_aload_n hx hb dX3_told_11 rfl (lv_at hl 0 rfl) ?_
      refine x_get (ci := 3) (CN := RX3) (T := TX3) (N := 11) E in_X3 hH 0 wC_g0 rfl 10 (by decide) kf_X3_42 rfl dX3_told_12 ?_
      refine lv_iload_n hx hb dX3_told_15 rfl (lv_at hl 1 rfl) ?_
      refine lv_ineg hx hb dX3_told_16 ?_
      refine lv_dup2_11 hx hb dX3_told_17 rfl rfl ?_
      obtain ⟨hi1, h⟩ := h
      refine x_iald E hH 16 0 wC_g16 rfl hi1 dX3_told_18 ?_
      refine lv_iconst (v := (1 : Int32)) hx hb dX3_told_19 (by decide) ?_
      refine lv_iadd hx hb dX3_told_20 ?_
      refine x_iast E hH 16 0 wC_g16 rfl hi1 wC_s16 dX3_told_21 (fun H locs hH => ?_)
      refine lv_iload_n hx hb dX3_told_22 rfl (lv_at hl 1 rfl) ?_
      exact x_iret E hH h dX3_told_23
set_option maxHeartbeats 4000000 in
set_option maxRecDepth 100000 in
theorem c_X3_foundOrNone {l : Launch} {D : va_G} {cI cS cO : ClassId} {a ad : Nat → Nat} {C : CS} {x1 : Int32} {post : Int32 → CS → Prop} (h : w_X3_foundOrNone post C x1) : MetX l D (tyW cI cS cO) yX3_foundOrNone cX3_foundOrNone 2 (some .int) 1 0 0 [.ref (a 0), .int x1] (wC cI cO a ad C) (QI D (wC cI cO a ad) post) := by
  refine x_ent (by decide) (Nat.le_of_ble_eq_true rfl) ?_
  intro p e s m below meth c ls E _ hH hl
  have hx := E.1
  have hb := E.2.1
  generalize va_A (wC cI cO a ad C) s.heap.size = A at hH ⊢
  have hl : lv_has ls 2 [(0, .ref (a 0)), (1, .int x1)] := hl
  unfold w_X3_foundOrNone at h
  refine lv_iload_n hx hb dX3_foundOrNone_0 rfl (lv_at hl 1 rfl) ?_
  refine lv_bipush (v := (-6 : Int32)) hx hb dX3_foundOrNone_1 (by decide) ?_
  refine lv_icmp_ne (tgt := 15) hx hb dX3_foundOrNone_3 (by decide) (fun hc => ?_) (fun hc => ?_)
  · have h := h.1 hc
    refine lv_iload_n hx hb dX3_foundOrNone_15 rfl (lv_at hl 1 rfl) ?_
    exact x_iret E hH h dX3_foundOrNone_16
  · have h := h.2 hc
    refine lv_aload_n hx hb dX3_foundOrNone_6 rfl (lv_at hl 0 rfl) ?_
    refine lv_bipush (v := (-6 : Int32)) hx hb dX3_foundOrNone_7 (by decide) ?_
    refine x_ci (x_runV (As := [.int (-6 : Int32)]) (rest := []) E (c_X3_told h) yk_X3_told yi_X3_told km_X3_56 ⟨Nat.le_of_ble_eq_true rfl, Nat.le_of_ble_eq_true rfl⟩ ⟨Nat.le_of_ble_eq_true rfl, Nat.le_of_ble_eq_true rfl⟩ hH (va_recv E.2.2.2.2.2.1 hH.1 (ci := 3) (q0 := 0) rfl wC_g0) hl.1 rfl rfl (lv_room (Nat.le_of_ble_eq_true rfl)) dX3_foundOrNone_9) hH (fun r2 C1 H locs h hH => ?_)
    refine lv_goto (tgt := 16) hx hb dX3_foundOrNone_12 (by decide) ?_
    exact x_iret E hH h dX3_foundOrNone_16
set_option maxHeartbeats 4000000 in
set_option maxRecDepth 100000 in
theorem c_X3_isShelfPlace {l : Launch} {D : va_G} {cI cS cO : ClassId} {a ad : Nat → Nat} {C : CS} {x0 : Int32} {post : Int32 → CS → Prop} (h : w_X3_isShelfPlace post C x0) : MetX l D (tyW cI cS cO) yX3_isShelfPlace cX3_isShelfPlace 1 (some .boolean) 0 0 0 [.int x0] (wC cI cO a ad C) (QI D (wC cI cO a ad) post) := by
  refine x_ent (by decide) (Nat.le_of_ble_eq_true rfl) ?_
  intro p e s m below meth c ls E _ hH hl
  have hx := E.1
  have hb := E.2.1
  generalize va_A (wC cI cO a ad C) s.heap.size = A at hH ⊢
  have hl : lv_has ls 1 [(0, .int x0)] := hl
  unfold w_X3_isShelfPlace at h
  refine lv_iload_n hx hb dX3_isShelfPlace_0 rfl (lv_at hl 0 rfl) ?_
  refine lv_if_lt (tgt := 14) hx hb dX3_isShelfPlace_1 (by decide) (fun hc => ?_) (fun hc => ?_)
  · have h := h.1 hc
    refine lv_iconst (v := (0 : Int32)) hx hb dX3_isShelfPlace_14 (by decide) ?_
    exact x_zret E hH h rfl dX3_isShelfPlace_15
  · have h := h.2 hc
    refine lv_iload_n hx hb dX3_isShelfPlace_4 rfl (lv_at hl 0 rfl) ?_
    refine lv_bipush (v := (12 : Int32)) hx hb dX3_isShelfPlace_5 (by decide) ?_
    refine lv_icmp_ge (tgt := 14) hx hb dX3_isShelfPlace_7 (by decide) (fun hc => ?_) (fun hc => ?_)
    · have h := h.1 hc
      refine lv_iconst (v := (0 : Int32)) hx hb dX3_isShelfPlace_14 (by decide) ?_
      exact x_zret E hH h rfl dX3_isShelfPlace_15
    · have h := h.2 hc
      refine lv_iconst (v := (1 : Int32)) hx hb dX3_isShelfPlace_10 (by decide) ?_
      refine lv_goto (tgt := 15) hx hb dX3_isShelfPlace_11 (by decide) ?_
      exact x_zret E hH h rfl dX3_isShelfPlace_15
set_option maxHeartbeats 4000000 in
set_option maxRecDepth 100000 in
theorem c_X3_isValue {l : Launch} {D : va_G} {cI cS cO : ClassId} {a ad : Nat → Nat} {C : CS} {x0 : Int32} {post : Int32 → CS → Prop} (h : w_X3_isValue post C x0) : MetX l D (tyW cI cS cO) yX3_isValue cX3_isValue 1 (some .boolean) 0 0 0 [.int x0] (wC cI cO a ad C) (QI D (wC cI cO a ad) post) := by
  refine x_ent (by decide) (Nat.le_of_ble_eq_true rfl) ?_
  intro p e s m below meth c ls E _ hH hl
  have hx := E.1
  have hb := E.2.1
  generalize va_A (wC cI cO a ad C) s.heap.size = A at hH ⊢
  have hl : lv_has ls 1 [(0, .int x0)] := hl
  unfold w_X3_isValue at h
  refine lv_iload_n hx hb dX3_isValue_0 rfl (lv_at hl 0 rfl) ?_
  refine lv_if_lt (tgt := 15) hx hb dX3_isValue_1 (by decide) (fun hc => ?_) (fun hc => ?_)
  · have h := h.1 hc
    refine lv_iconst (v := (0 : Int32)) hx hb dX3_isValue_15 (by decide) ?_
    exact x_zret E hH h rfl dX3_isValue_16
  · have h := h.2 hc
    refine lv_iload_n hx hb dX3_isValue_4 rfl (lv_at hl 0 rfl) ?_
    refine lv_sipush (v := (1023 : Int32)) hx hb dX3_isValue_5 (by decide) ?_
    refine lv_icmp_gt (tgt := 15) hx hb dX3_isValue_8 (by decide) (fun hc => ?_) (fun hc => ?_)
    · have h := h.1 hc
      refine lv_iconst (v := (0 : Int32)) hx hb dX3_isValue_15 (by decide) ?_
      exact x_zret E hH h rfl dX3_isValue_16
    · have h := h.2 hc
      refine lv_iconst (v := (1 : Int32)) hx hb dX3_isValue_11 (by decide) ?_
      refine lv_goto (tgt := 16) hx hb dX3_isValue_12 (by decide) ?_
      exact x_zret E hH h rfl dX3_isValue_16
set_option maxHeartbeats 4000000 in
set_option maxRecDepth 100000 in
theorem c_X3_isVersion {l : Launch} {D : va_G} {cI cS cO : ClassId} {a ad : Nat → Nat} {C : CS} {x1 : Int32} {post : Int32 → CS → Prop} (h : w_X3_isVersion post C x1) : MetX l D (tyW cI cS cO) yX3_isVersion cX3_isVersion 2 (some .boolean) 0 0 0 [.ref (a 0), .int x1] (wC cI cO a ad C) (QI D (wC cI cO a ad) post) := by
  refine x_ent (by decide) (Nat.le_of_ble_eq_true rfl) ?_
  intro p e s m below meth c ls E _ hH hl
  have hx := E.1
  have hb := E.2.1
  generalize va_A (wC cI cO a ad C) s.heap.size = A at hH ⊢
  have hl : lv_has ls 2 [(0, .ref (a 0)), (1, .int x1)] := hl
  unfold w_X3_isVersion at h
  refine lv_iload_n hx hb dX3_isVersion_0 rfl (lv_at hl 1 rfl) ?_
  refine lv_if_lt (tgt := 16) hx hb dX3_isVersion_1 (by decide) (fun hc => ?_) (fun hc => ?_)
  · have h := h.1 hc
    refine lv_iconst (v := (0 : Int32)) hx hb dX3_isVersion_16 (by decide) ?_
    exact x_zret E hH h rfl dX3_isVersion_17
  · have h := h.2 hc
    refine lv_iload_n hx hb dX3_isVersion_4 rfl (lv_at hl 1 rfl) ?_
    refine lv_aload_n hx hb dX3_isVersion_5 rfl (lv_at hl 0 rfl) ?_
    refine x_get (ci := 3) (CN := RX3) (T := TX3) (N := 11) E in_X3 hH 0 wC_g0 rfl 1 (by decide) kf_X3_48 rfl dX3_isVersion_6 ?_
    refine lv_icmp_ge (tgt := 16) hx hb dX3_isVersion_9 (by decide) (fun hc => ?_) (fun hc => ?_)
    · have h := h.1 hc
      refine lv_iconst (v := (0 : Int32)) hx hb dX3_isVersion_16 (by decide) ?_
      exact x_zret E hH h rfl dX3_isVersion_17
    · have h := h.2 hc
      refine lv_iconst (v := (1 : Int32)) hx hb dX3_isVersion_12 (by decide) ?_
      refine lv_goto (tgt := 17) hx hb dX3_isVersion_13 (by decide) ?_
      exact x_zret E hH h rfl dX3_isVersion_17
set_option maxHeartbeats 4000000 in
set_option maxRecDepth 100000 in
theorem c_X3_findingOfPlace {l : Launch} {D : va_G} {cI cS cO : ClassId} {a ad : Nat → Nat} {C : CS} {x1 : Int32} {post : Int32 → CS → Prop} (h : w_X3_findingOfPlace post C x1) : MetX l D (tyW cI cS cO) yX3_findingOfPlace cX3_findingOfPlace 2 (some .int) 1 0 0 [.ref (a 0), .int x1] (wC cI cO a ad C) (QI D (wC cI cO a ad) post) := by
  refine x_ent (by decide) (Nat.le_of_ble_eq_true rfl) ?_
  intro p e s m below meth c ls E _ hH hl
  have hx := E.1
  have hb := E.2.1
  generalize va_A (wC cI cO a ad C) s.heap.size = A at hH ⊢
  have hl : lv_has ls 2 [(0, .ref (a 0)), (1, .int x1)] := hl
  unfold w_X3_findingOfPlace at h
  refine lv_iload_n hx hb dX3_findingOfPlace_0 rfl (lv_at hl 1 rfl) ?_
  refine x_ci (x_runS (As := [.int x1]) (rest := []) E (c_X3_isShelfPlace h) yk_X3_isShelfPlace yi_X3_isShelfPlace km_X3_63 ⟨Nat.le_of_ble_eq_true rfl, Nat.le_of_ble_eq_true rfl⟩ ⟨Nat.le_of_ble_eq_true rfl, Nat.le_of_ble_eq_true rfl⟩ hH  hl.1 rfl rfl (lv_room (Nat.le_of_ble_eq_true rfl)) dX3_findingOfPlace_1) hH (fun r2 C1 H locs h hH => ?_)
  refine lv_if_ne (tgt := 9) hx hb dX3_findingOfPlace_4 (by decide) (fun hc => ?_) (fun hc => ?_)
  · have h := h.1 hc
    refine lv_aload_n hx hb dX3_findingOfPlace_9 rfl (lv_at hl 0 rfl) ?_
    refine x_get (ci := 3) (CN := RX3) (T := TX3) (N := 11) E in_X3 hH 0 wC_g0 rfl 3 (by decide) kf_X3_15 rfl dX3_findingOfPlace_10 ?_
    refine lv_iload_n hx hb dX3_findingOfPlace_13 rfl (lv_at hl 1 rfl) ?_
    obtain ⟨hi4, h⟩ := h
    refine x_aald E hH 2 2 wC_g2 rfl hi4 dX3_findingOfPlace_14 ?_
    refine q_top (ad := ad) (x := co C1 2 (Int32.toNatClampNeg x1)) (fun w3 ew3 => ?_)
    have h := h w3 ew3
    refine q_ifnonnull (tgt := 23) hx hb dX3_findingOfPlace_15 (by decide) (fun hc => ?_) (fun hc => ?_)
    · have h := h.1 hc
      refine lv_iconst (v := (0 : Int32)) hx hb dX3_findingOfPlace_23 (by decide) ?_
      exact x_iret E hH h dX3_findingOfPlace_24
    · have h := h.2 hc
      refine lv_bipush (v := (-2 : Int32)) hx hb dX3_findingOfPlace_18 (by decide) ?_
      refine lv_goto (tgt := 24) hx hb dX3_findingOfPlace_20 (by decide) ?_
      exact x_iret E hH h dX3_findingOfPlace_24
  · have h := h.2 hc
    refine lv_iconst (v := (-1 : Int32)) hx hb dX3_findingOfPlace_7 (by decide) ?_
    exact x_iret E hH h dX3_findingOfPlace_8
set_option maxHeartbeats 4000000 in
set_option maxRecDepth 100000 in
theorem c_X3_findingOfGrown {l : Launch} {D : va_G} {cI cS cO : ClassId} {a ad : Nat → Nat} {C : CS} {x1 : Int32} {post : Int32 → CS → Prop} (h : w_X3_findingOfGrown post C x1) : MetX l D (tyW cI cS cO) yX3_findingOfGrown cX3_findingOfGrown 3 (some .int) 2 0 0 [.ref (a 0), .int x1] (wC cI cO a ad C) (QI D (wC cI cO a ad) post) := by
  refine x_ent (by decide) (Nat.le_of_ble_eq_true rfl) ?_
  intro p e s m below meth c ls E _ hH hl
  have hx := E.1
  have hb := E.2.1
  generalize va_A (wC cI cO a ad C) s.heap.size = A at hH ⊢
  have hl : lv_has ls 3 [(0, .ref (a 0)), (1, .int x1)] := hl
  unfold w_X3_findingOfGrown at h
  refine lv_aload_n hx hb dX3_findingOfGrown_0 rfl (lv_at hl 0 rfl) ?_
  refine lv_iload_n hx hb dX3_findingOfGrown_1 rfl (lv_at hl 1 rfl) ?_
  refine x_ci (x_runV (As := [.int x1]) (rest := []) E (c_X3_findingOfPlace h) yk_X3_findingOfPlace yi_X3_findingOfPlace km_X3_121 ⟨Nat.le_of_ble_eq_true rfl, Nat.le_of_ble_eq_true rfl⟩ ⟨Nat.le_of_ble_eq_true rfl, Nat.le_of_ble_eq_true rfl⟩ hH (va_recv E.2.2.2.2.2.1 hH.1 (ci := 3) (q0 := 0) rfl wC_g0) hl.1 rfl rfl (lv_room (Nat.le_of_ble_eq_true rfl)) dX3_findingOfGrown_2) hH (fun r2 C1 H locs h hH => ?_)
  refine lv_istore_n (lv' := [(2, .int r2), (0, .ref (a 0)), (1, .int x1)]) hx hb dX3_findingOfGrown_5 rfl hl (by decide) rfl (fun ls hl => ?_)
  refine lv_iload_n hx hb dX3_findingOfGrown_6 rfl (lv_at hl 0 rfl) ?_
  refine lv_if_eq (tgt := 12) hx hb dX3_findingOfGrown_7 (by decide) (fun hc => ?_) (fun hc => ?_)
  · have h := h.1 hc
    refine lv_aload_n hx hb dX3_findingOfGrown_12 rfl (lv_at hl 1 rfl) ?_
    refine x_get (ci := 3) (CN := RX3) (T := TX3) (N := 11) E in_X3 hH 0 wC_g0 rfl 4 (by decide) kf_X3_18 rfl dX3_findingOfGrown_13 ?_
    refine lv_iload_n hx hb dX3_findingOfGrown_16 rfl (lv_at hl 2 rfl) ?_
    obtain ⟨hi3, h⟩ := h
    refine x_iald E hH 3 0 wC_g3 rfl hi3 dX3_findingOfGrown_17 ?_
    refine lv_if_ne (tgt := 25) hx hb dX3_findingOfGrown_18 (by decide) (fun hc => ?_) (fun hc => ?_)
    · have h := h.1 hc
      refine lv_bipush (v := (-3 : Int32)) hx hb dX3_findingOfGrown_25 (by decide) ?_
      exact x_iret E hH h dX3_findingOfGrown_27
    · have h := h.2 hc
      refine lv_iconst (v := (0 : Int32)) hx hb dX3_findingOfGrown_21 (by decide) ?_
      refine lv_goto (tgt := 27) hx hb dX3_findingOfGrown_22 (by decide) ?_
      exact x_iret E hH h dX3_findingOfGrown_27
  · have h := h.2 hc
    refine lv_iload_n hx hb dX3_findingOfGrown_10 rfl (lv_at hl 0 rfl) ?_
    exact x_iret E hH h dX3_findingOfGrown_11
set_option maxHeartbeats 4000000 in
set_option maxRecDepth 100000 in
theorem c_X3_findingOfIndex {l : Launch} {D : va_G} {cI cS cO : ClassId} {a ad : Nat → Nat} {C : CS} {x1 : Int32} {x2 : Int32} {post : Int32 → CS → Prop} (h : w_X3_findingOfIndex post C x1 x2) : MetX l D (tyW cI cS cO) yX3_findingOfIndex cX3_findingOfIndex 4 (some .int) 2 0 0 [.ref (a 0), .int x1, .int x2] (wC cI cO a ad C) (QI D (wC cI cO a ad) post) := by
  refine x_ent (by decide) (Nat.le_of_ble_eq_true rfl) ?_
  intro p e s m below meth c ls E _ hH hl
  have hx := E.1
  have hb := E.2.1
  generalize va_A (wC cI cO a ad C) s.heap.size = A at hH ⊢
  have hl : lv_has ls 4 [(0, .ref (a 0)), (1, .int x1), (2, .int x2)] := hl
  unfold w_X3_findingOfIndex at h
  refine lv_aload_n hx hb dX3_findingOfIndex_0 rfl (lv_at hl 0 rfl) ?_
  refine lv_iload_n hx hb dX3_findingOfIndex_1 rfl (lv_at hl 1 rfl) ?_
  refine x_ci (x_runV (As := [.int x1]) (rest := []) E (c_X3_findingOfPlace h) yk_X3_findingOfPlace yi_X3_findingOfPlace km_X3_121 ⟨Nat.le_of_ble_eq_true rfl, Nat.le_of_ble_eq_true rfl⟩ ⟨Nat.le_of_ble_eq_true rfl, Nat.le_of_ble_eq_true rfl⟩ hH (va_recv E.2.2.2.2.2.1 hH.1 (ci := 3) (q0 := 0) rfl wC_g0) hl.1 rfl rfl (lv_room (Nat.le_of_ble_eq_true rfl)) dX3_findingOfIndex_2) hH (fun r2 C1 H locs h hH => ?_)
  refine lv_istore_n (lv' := [(3, .int r2), (0, .ref (a 0)), (1, .int x1), (2, .int x2)]) hx hb dX3_findingOfIndex_5 rfl hl (by decide) rfl (fun ls hl => ?_)
  refine lv_iload_n hx hb dX3_findingOfIndex_6 rfl (lv_at hl 0 rfl) ?_
  refine lv_if_eq (tgt := 12) hx hb dX3_findingOfIndex_7 (by decide) (fun hc => ?_) (fun hc => ?_)
  · have h := h.1 hc
    refine lv_iload_n hx hb dX3_findingOfIndex_12 rfl (lv_at hl 3 rfl) ?_
    refine lv_if_lt (tgt := 29) hx hb dX3_findingOfIndex_13 (by decide) (fun hc => ?_) (fun hc => ?_)
    · have h := h.1 hc
      refine lv_iconst (v := (-1 : Int32)) hx hb dX3_findingOfIndex_29 (by decide) ?_
      refine lv_goto (tgt := 34) hx hb dX3_findingOfIndex_30 (by decide) ?_
      exact x_iret E hH h dX3_findingOfIndex_34
    · have h := h.2 hc
      refine lv_iload_n hx hb dX3_findingOfIndex_16 rfl (lv_at hl 3 rfl) ?_
      refine lv_aload_n hx hb dX3_findingOfIndex_17 rfl (lv_at hl 1 rfl) ?_
      refine x_get (ci := 3) (CN := RX3) (T := TX3) (N := 11) E in_X3 hH 0 wC_g0 rfl 3 (by decide) kf_X3_15 rfl dX3_findingOfIndex_18 ?_
      refine lv_iload_n hx hb dX3_findingOfIndex_21 rfl (lv_at hl 2 rfl) ?_
      obtain ⟨hi4, h⟩ := h
      refine x_aald E hH 2 2 wC_g2 rfl hi4 dX3_findingOfIndex_22 ?_
      refine q_top (ad := ad) (x := co C1 2 (Int32.toNatClampNeg x1)) (fun w3 ew3 => ?_)
      have h := h w3 ew3
      obtain ⟨v5, rfl, hv6, h⟩ := h
      refine x_getN (ci := 2) (CN := RX2) (T := TX2) (N := 9) E in_X2 hH (17 + 3 * v5) (wC_v0 hv6) rfl 3 (by decide) kfn_X3_66 rfl dX3_findingOfIndex_23 ?_
      refine lv_icmp_lt (tgt := 33) hx hb dX3_findingOfIndex_26 (by decide) (fun hc => ?_) (fun hc => ?_)
      · have h := h.1 hc
        refine lv_iconst (v := (0 : Int32)) hx hb dX3_findingOfIndex_33 (by decide) ?_
        exact x_iret E hH h dX3_findingOfIndex_34
      · have h := h.2 hc
        refine lv_iconst (v := (-1 : Int32)) hx hb dX3_findingOfIndex_29 (by decide) ?_
        refine lv_goto (tgt := 34) hx hb dX3_findingOfIndex_30 (by decide) ?_
        exact x_iret E hH h dX3_findingOfIndex_34
  · have h := h.2 hc
    refine lv_iload_n hx hb dX3_findingOfIndex_10 rfl (lv_at hl 0 rfl) ?_
    exact x_iret E hH h dX3_findingOfIndex_11
end WALKS_C1
