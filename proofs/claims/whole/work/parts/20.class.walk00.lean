section WALKS_C0
variable {p : Program} {l : Launch} {e : Env} {s : State} {m : MethodId} {args : Array Value} {below : List Frame} {meth : Method} {c : Code} {D : va_G} {cI cS cO : ClassId} {a ad : Nat → Nat} {A : Nat → Prop}
set_option maxHeartbeats 4000000 in
set_option maxRecDepth 100000 in
theorem k_J7_fill13_5b {post : CS → Prop} (E : Cx p s m args meth c cJ7_fill_53178 4 RJ7 none D (tyW cI cS cO))  {K5 : CS → Int32 → Int32 → Int32 → Prop} (hK5 : ∀ (C : CS) (x1 : Int32) (x2 : Int32) (x3 : Int32) (H : Heap) (locs : List Loc) (ls : Array Slot), HX D (wC cI cO a ad C) A s.heap H locs → lv_has ls 4 [(0, .ref (a 13)), (1, .int x1), (2, .int x2), (3, .int x3)] → K5 C x1 x2 x3 → W p l e (rmA 0 0 0) s m args below meth c H locs 0 0 (MQ below ((QV D (wC cI cO a ad) post) A) args s 0 0 A) (F0 m 5 ls [])) {C : CS} {x1 : Int32} {x2 : Int32} {x3 : Int32} {H : Heap} {locs : List Loc} {ls : Array Slot} (hH : HX D (wC cI cO a ad C) A s.heap H locs) (hl : lv_has ls 4 [(0, .ref (a 13)), (1, .int x1), (2, .int x2), (3, .int x3)]) (h : w_J7_fill13_5b post K5 C x1 x2 x3) : W p l e (rmA 0 0 0) s m args below meth c H locs 0 0 (MQ below ((QV D (wC cI cO a ad) post) A) args s 0 0 A) (F0 m 5 ls []) := by
  have hx := E.1
  have hb := E.2.1
  unfold w_J7_fill13_5b at h
  refine lv_iload_n hx hb dJ7_fill_53178_5 rfl (lv_at hl 2 rfl) ?_
  refine lv_iload_n hx hb dJ7_fill_53178_6 rfl (lv_at hl 3 rfl) ?_
  refine lv_icmp_ge (tgt := 20) hx hb dJ7_fill_53178_7 (by decide) (fun hc => ?_) (fun hc => ?_)
  · have h := h.1 hc
    exact x_vret E hH h dJ7_fill_53178_20
  · have h := h.2 hc
    refine lv_aload_n hx hb dJ7_fill_53178_10 rfl (lv_at hl 0 rfl) ?_
    refine lv_iload_n hx hb dJ7_fill_53178_11 rfl (lv_at hl 2 rfl) ?_
    refine lv_iload_n hx hb dJ7_fill_53178_12 rfl (lv_at hl 1 rfl) ?_
    obtain ⟨hi2, h⟩ := h
    refine x_iast E hH 13 0 wC_g13 rfl hi2 wC_s13 dJ7_fill_53178_13 (fun H locs hH => ?_)
    refine lv_iinc (v := (x2 + 1)) (lv' := [(2, .int (x2 + 1)), (0, .ref (a 13)), (1, .int x1), (3, .int x3)]) hx hb dJ7_fill_53178_14 hl (k := 2) rfl rfl (by decide) rfl (fun ls hl => ?_)
    refine lv_goto (tgt := 5) hx hb dJ7_fill_53178_17 (by decide) ?_
    exact hK5 _ _ _ _ _ _ _ hH (lv_sub hl [1, 2, 0, 3] rfl) h
theorem k_J7_fill13_5 {post : CS → Prop} (E : Cx p s m args meth c cJ7_fill_53178 4 RJ7 none D (tyW cI cS cO))  (n : Nat) : ∀ {C : CS} {x1 : Int32} {x2 : Int32} {x3 : Int32} {H : Heap} {locs : List Loc} {ls : Array Slot} (hH : HX D (wC cI cO a ad C) A s.heap H locs) (hl : lv_has ls 4 [(0, .ref (a 13)), (1, .int x1), (2, .int x2), (3, .int x3)]) (h : w_J7_fill13_5 post n C x1 x2 x3), W p l e (rmA 0 0 0) s m args below meth c H locs 0 0 (MQ below ((QV D (wC cI cO a ad) post) A) args s 0 0 A) (F0 m 5 ls []) := by
  induction n with
  | zero => intros; contradiction
  | succ n ih => intro C x1 x2 x3 H locs ls hH hl h; exact k_J7_fill13_5b E  (fun C x1 x2 x3 H locs ls hH hl h => ih hH hl h) hH hl h
set_option maxHeartbeats 4000000 in
set_option maxRecDepth 100000 in
theorem c_J7_fill13 {l : Launch} {D : va_G} {cI cS cO : ClassId} {a ad : Nat → Nat} {C : CS} {x1 : Int32} {post : CS → Prop} (h : w_J7_fill13 post C x1) : MetX l D (tyW cI cS cO) yJ7_fill_53178 cJ7_fill_53178 4 none 0 0 0 [.ref (a 13), .int x1] (wC cI cO a ad C) (QV D (wC cI cO a ad) post) := by
  refine x_ent (by decide) (Nat.le_of_ble_eq_true rfl) ?_
  intro p e s m below meth c ls E _ hH hl
  have hx := E.1
  have hb := E.2.1
  generalize va_A (wC cI cO a ad C) s.heap.size = A at hH ⊢
  have hl : lv_has ls 4 [(0, .ref (a 13)), (1, .int x1)] := hl
  unfold w_J7_fill13 at h
  refine lv_iconst (v := (0 : Int32)) hx hb dJ7_fill_53178_0 (by decide) ?_
  refine lv_istore_n (lv' := [(2, .int (0 : Int32)), (0, .ref (a 13)), (1, .int x1)]) hx hb dJ7_fill_53178_1 rfl hl (by decide) rfl (fun ls hl => ?_)
  refine lv_aload_n hx hb dJ7_fill_53178_2 rfl (lv_at hl 1 rfl) ?_
  refine x_alen E hH 13 0 wC_g13 rfl dJ7_fill_53178_3 ?_
  refine lv_istore_n (lv' := [(3, .int (nI 1024)), (2, .int (0 : Int32)), (0, .ref (a 13)), (1, .int x1)]) hx hb dJ7_fill_53178_4 rfl hl (by decide) rfl (fun ls hl => ?_)
  obtain ⟨n, h⟩ := h
  exact k_J7_fill13_5 E  n hH (lv_sub hl [2, 3, 1, 0] rfl) h
set_option maxHeartbeats 4000000 in
set_option maxRecDepth 100000 in
theorem k_J7_fill14_5b {post : CS → Prop} (E : Cx p s m args meth c cJ7_fill_53178 4 RJ7 none D (tyW cI cS cO))  {K5 : CS → Int32 → Int32 → Int32 → Prop} (hK5 : ∀ (C : CS) (x1 : Int32) (x2 : Int32) (x3 : Int32) (H : Heap) (locs : List Loc) (ls : Array Slot), HX D (wC cI cO a ad C) A s.heap H locs → lv_has ls 4 [(0, .ref (a 14)), (1, .int x1), (2, .int x2), (3, .int x3)] → K5 C x1 x2 x3 → W p l e (rmA 0 0 0) s m args below meth c H locs 0 0 (MQ below ((QV D (wC cI cO a ad) post) A) args s 0 0 A) (F0 m 5 ls [])) {C : CS} {x1 : Int32} {x2 : Int32} {x3 : Int32} {H : Heap} {locs : List Loc} {ls : Array Slot} (hH : HX D (wC cI cO a ad C) A s.heap H locs) (hl : lv_has ls 4 [(0, .ref (a 14)), (1, .int x1), (2, .int x2), (3, .int x3)]) (h : w_J7_fill14_5b post K5 C x1 x2 x3) : W p l e (rmA 0 0 0) s m args below meth c H locs 0 0 (MQ below ((QV D (wC cI cO a ad) post) A) args s 0 0 A) (F0 m 5 ls []) := by
  have hx := E.1
  have hb := E.2.1
  unfold w_J7_fill14_5b at h
  refine lv_iload_n hx hb dJ7_fill_53178_5 rfl (lv_at hl 2 rfl) ?_
  refine lv_iload_n hx hb dJ7_fill_53178_6 rfl (lv_at hl 3 rfl) ?_
  refine lv_icmp_ge (tgt := 20) hx hb dJ7_fill_53178_7 (by decide) (fun hc => ?_) (fun hc => ?_)
  · have h := h.1 hc
    exact x_vret E hH h dJ7_fill_53178_20
  · have h := h.2 hc
    refine lv_aload_n hx hb dJ7_fill_53178_10 rfl (lv_at hl 0 rfl) ?_
    refine lv_iload_n hx hb dJ7_fill_53178_11 rfl (lv_at hl 2 rfl) ?_
    refine lv_iload_n hx hb dJ7_fill_53178_12 rfl (lv_at hl 1 rfl) ?_
    obtain ⟨hi2, h⟩ := h
    refine x_iast E hH 14 0 wC_g14 rfl hi2 wC_s14 dJ7_fill_53178_13 (fun H locs hH => ?_)
    refine lv_iinc (v := (x2 + 1)) (lv' := [(2, .int (x2 + 1)), (0, .ref (a 14)), (1, .int x1), (3, .int x3)]) hx hb dJ7_fill_53178_14 hl (k := 2) rfl rfl (by decide) rfl (fun ls hl => ?_)
    refine lv_goto (tgt := 5) hx hb dJ7_fill_53178_17 (by decide) ?_
    exact hK5 _ _ _ _ _ _ _ hH (lv_sub hl [1, 2, 0, 3] rfl) h
theorem k_J7_fill14_5 {post : CS → Prop} (E : Cx p s m args meth c cJ7_fill_53178 4 RJ7 none D (tyW cI cS cO))  (n : Nat) : ∀ {C : CS} {x1 : Int32} {x2 : Int32} {x3 : Int32} {H : Heap} {locs : List Loc} {ls : Array Slot} (hH : HX D (wC cI cO a ad C) A s.heap H locs) (hl : lv_has ls 4 [(0, .ref (a 14)), (1, .int x1), (2, .int x2), (3, .int x3)]) (h : w_J7_fill14_5 post n C x1 x2 x3), W p l e (rmA 0 0 0) s m args below meth c H locs 0 0 (MQ below ((QV D (wC cI cO a ad) post) A) args s 0 0 A) (F0 m 5 ls []) := by
  induction n with
  | zero => intros; contradiction
  | succ n ih => intro C x1 x2 x3 H locs ls hH hl h; exact k_J7_fill14_5b E  (fun C x1 x2 x3 H locs ls hH hl h => ih hH hl h) hH hl h
set_option maxHeartbeats 4000000 in
set_option maxRecDepth 100000 in
theorem c_J7_fill14 {l : Launch} {D : va_G} {cI cS cO : ClassId} {a ad : Nat → Nat} {C : CS} {x1 : Int32} {post : CS → Prop} (h : w_J7_fill14 post C x1) : MetX l D (tyW cI cS cO) yJ7_fill_53178 cJ7_fill_53178 4 none 0 0 0 [.ref (a 14), .int x1] (wC cI cO a ad C) (QV D (wC cI cO a ad) post) := by
  refine x_ent (by decide) (Nat.le_of_ble_eq_true rfl) ?_
  intro p e s m below meth c ls E _ hH hl
  have hx := E.1
  have hb := E.2.1
  generalize va_A (wC cI cO a ad C) s.heap.size = A at hH ⊢
  have hl : lv_has ls 4 [(0, .ref (a 14)), (1, .int x1)] := hl
  unfold w_J7_fill14 at h
  refine lv_iconst (v := (0 : Int32)) hx hb dJ7_fill_53178_0 (by decide) ?_
  refine lv_istore_n (lv' := [(2, .int (0 : Int32)), (0, .ref (a 14)), (1, .int x1)]) hx hb dJ7_fill_53178_1 rfl hl (by decide) rfl (fun ls hl => ?_)
  refine lv_aload_n hx hb dJ7_fill_53178_2 rfl (lv_at hl 1 rfl) ?_
  refine x_alen E hH 14 0 wC_g14 rfl dJ7_fill_53178_3 ?_
  refine lv_istore_n (lv' := [(3, .int (nI 401)), (2, .int (0 : Int32)), (0, .ref (a 14)), (1, .int x1)]) hx hb dJ7_fill_53178_4 rfl hl (by decide) rfl (fun ls hl => ?_)
  obtain ⟨n, h⟩ := h
  exact k_J7_fill14_5 E  n hH (lv_sub hl [2, 3, 1, 0] rfl) h
set_option maxHeartbeats 4000000 in
set_option maxRecDepth 100000 in
theorem k_X0_layOut4_26b {post : CS → Prop} (E : Cx p s m args meth c cX0_layOut 5 RX0 none D (tyW cI cS cO)) {K12 : CS → Int32 → Option Nat → Prop} (hK12 : ∀ (C : CS) (x2 : Int32) (o3 : Option Nat) (H : Heap) (locs : List Loc) (ls : Array Slot), HX D (wC cI cO a ad C) A s.heap H locs → lv_has ls 5 [(0, .ref (a 4)), (2, .int x2), (3, rv ad o3)] → K12 C x2 o3 → W p l e (rmA 1 0 0) s m args below meth c H locs 0 0 (MQ below ((QV D (wC cI cO a ad) post) A) args s 0 0 A) (F0 m 12 ls [])) {K26 : CS → Int32 → Option Nat → Int32 → Prop} (hK26 : ∀ (C : CS) (x2 : Int32) (o3 : Option Nat) (x4 : Int32) (H : Heap) (locs : List Loc) (ls : Array Slot), HX D (wC cI cO a ad C) A s.heap H locs → lv_has ls 5 [(0, .ref (a 4)), (2, .int x2), (3, rv ad o3), (4, .int x4)] → K26 C x2 o3 x4 → W p l e (rmA 1 0 0) s m args below meth c H locs 0 0 (MQ below ((QV D (wC cI cO a ad) post) A) args s 0 0 A) (F0 m 26 ls [])) {C : CS} {x2 : Int32} {o3 : Option Nat} {x4 : Int32} {H : Heap} {locs : List Loc} {ls : Array Slot} (hH : HX D (wC cI cO a ad C) A s.heap H locs) (hl : lv_has ls 5 [(0, .ref (a 4)), (2, .int x2), (3, rv ad o3), (4, .int x4)]) (h : w_X0_layOut4_26b post K12 K26 C x2 o3 x4) : W p l e (rmA 1 0 0) s m args below meth c H locs 0 0 (MQ below ((QV D (wC cI cO a ad) post) A) args s 0 0 A) (F0 m 26 ls []) := by
  have hx := E.1
  have hb := E.2.1
  unfold w_X0_layOut4_26b at h
  refine lv_iload hx hb dX0_layOut_26 (lv_at hl 3 rfl) ?_
  refine lv_iload_n hx hb dX0_layOut_28 rfl (lv_at hl 1 rfl) ?_
  refine lv_icmp_ge (tgt := 76) hx hb dX0_layOut_29 (by decide) (fun hc => ?_) (fun hc => ?_)
  · have h := h.1 hc
    refine lv_iload_n hx hb dX0_layOut_76 rfl (lv_at hl 1 rfl) ?_
    refine q_aload_n hx hb dX0_layOut_77 rfl (lv_at hl 2 rfl) ?_
    obtain ⟨v6, rfl, hv7, h⟩ := h
    refine x_getN (ci := 2) (CN := RX2) (T := TX2) (N := 9) E in_X2 hH (17 + 3 * v6) (wC_v0 hv7) rfl 2 (by decide) kfn_X0_28 rfl dX0_layOut_78 ?_
    refine va_mmin hx hb (E.2.2.1.trans hl.1.symm) E.2.2.2.1 (E.2.2.2.2.1 _ km_X0_37) (E.2.2.2.2.1 _ km_min_s) (E.2.2.2.2.1 _ km_math) (E.2.2.2.2.1 _ km_min_c) (by decide) (by decide) (by decide) (by decide) dX0_layOut_81 ?_
    refine lv_istore_n (lv' := [(2, .int (if (cf C v6 2) < x2 then (cf C v6 2) else x2)), (0, .ref (a 4)), (3, .ref (ad (3 * v6))), (4, .int x4)]) hx hb dX0_layOut_84 rfl hl (by decide) rfl (fun ls hl => ?_)
    refine lv_aload_n hx hb dX0_layOut_85 rfl (lv_at hl 2 rfl) ?_
    refine x_getN (ci := 2) (CN := RX2) (T := TX2) (N := 9) E in_X2 hH (17 + 3 * v6) (wC_v0 hv7) rfl 1 (by decide) kfn_X0_43 rfl dX0_layOut_86 ?_
    refine q_top (ad := ad) (x := cp C v6) (fun w8 ew8 => ?_)
    have h := h w8 ew8
    refine q_astore_n (i := 3) (lv' := [(2, .int (if (cf C v6 2) < x2 then (cf C v6 2) else x2)), (0, .ref (a 4)), (4, .int x4)]) hx hb dX0_layOut_89 rfl hl (by decide) (fun _ => rfl) (fun ls hl => ?_)
    refine lv_goto (tgt := 12) hx hb dX0_layOut_90 (by decide) ?_
    exact hK12 _ _ _ _ _ _ hH (lv_sub hl [2, 1, 0] rfl) h
  · have h := h.2 hc
    refine lv_aload_n hx hb dX0_layOut_32 rfl (lv_at hl 0 rfl) ?_
    refine x_get (ci := 0) (CN := RX0) (T := TX0) (N := 4) E in_X0 hH 4 wC_g4 rfl 0 (by decide) kf_X0_9 rfl dX0_layOut_33 ?_
    refine lv_iload hx hb dX0_layOut_36 (lv_at hl 3 rfl) ?_
    refine q_aload_n hx hb dX0_layOut_38 rfl (lv_at hl 2 rfl) ?_
    obtain ⟨v9, rfl, hv10, h⟩ := h
    refine x_getN (ci := 2) (CN := RX2) (T := TX2) (N := 9) E in_X2 hH (17 + 3 * v9) (wC_v0 hv10) rfl 4 (by decide) kfn_X0_31 rfl dX0_layOut_39 ?_
    refine lv_iload hx hb dX0_layOut_42 (lv_at hl 3 rfl) ?_
    refine lv_aload_n hx hb dX0_layOut_44 rfl (lv_at hl 2 rfl) ?_
    refine x_getN (ci := 2) (CN := RX2) (T := TX2) (N := 9) E in_X2 hH (17 + 3 * v9) (wC_v0 hv10) rfl 2 (by decide) kfn_X0_28 rfl dX0_layOut_45 ?_
    refine lv_isub hx hb dX0_layOut_48 ?_
    obtain ⟨hi11, h⟩ := h
    refine x_iald E hH (17 + (3 * v9 + 1)) 0 (wC_v1 hv10) rfl hi11 dX0_layOut_49 ?_
    obtain ⟨hi12, h⟩ := h
    refine x_iast E hH 5 0 wC_g5 rfl hi12 wC_s5 dX0_layOut_50 (fun H locs hH => ?_)
    refine lv_aload_n hx hb dX0_layOut_51 rfl (lv_at hl 0 rfl) ?_
    refine x_get (ci := 0) (CN := RX0) (T := TX0) (N := 4) E in_X0 hH 4 wC_g4 rfl 1 (by decide) kf_X0_15 rfl dX0_layOut_52 ?_
    refine lv_iload hx hb dX0_layOut_55 (lv_at hl 3 rfl) ?_
    refine lv_aload_n hx hb dX0_layOut_57 rfl (lv_at hl 2 rfl) ?_
    refine x_getN (ci := 2) (CN := RX2) (T := TX2) (N := 9) E in_X2 hH (17 + 3 * v9) (wC_v0 hv10) rfl 5 (by decide) kfn_X0_34 rfl dX0_layOut_58 ?_
    refine lv_iload hx hb dX0_layOut_61 (lv_at hl 3 rfl) ?_
    refine lv_aload_n hx hb dX0_layOut_63 rfl (lv_at hl 2 rfl) ?_
    refine x_getN (ci := 2) (CN := RX2) (T := TX2) (N := 9) E in_X2 hH (17 + 3 * v9) (wC_v0 hv10) rfl 2 (by decide) kfn_X0_28 rfl dX0_layOut_64 ?_
    refine lv_isub hx hb dX0_layOut_67 ?_
    refine x_iald E hH (17 + (3 * v9 + 2)) 0 (wC_v2 hv10) rfl hi11 dX0_layOut_68 ?_
    refine x_iast E hH 6 0 wC_g6 rfl hi12 wC_s6 dX0_layOut_69 (fun H locs hH => ?_)
    refine lv_iinc (v := (x4 + 1)) (lv' := [(4, .int (x4 + 1)), (0, .ref (a 4)), (2, .int x2), (3, .ref (ad (3 * v9)))]) hx hb dX0_layOut_70 hl (k := 3) rfl rfl (by decide) rfl (fun ls hl => ?_)
    refine lv_goto (tgt := 26) hx hb dX0_layOut_73 (by decide) ?_
    exact hK26 _ _ _ _ _ _ _ hH (lv_sub hl [1, 2, 3, 0] rfl) h
theorem k_X0_layOut4_26 {post : CS → Prop} (E : Cx p s m args meth c cX0_layOut 5 RX0 none D (tyW cI cS cO)) {K12 : CS → Int32 → Option Nat → Prop} (hK12 : ∀ (C : CS) (x2 : Int32) (o3 : Option Nat) (H : Heap) (locs : List Loc) (ls : Array Slot), HX D (wC cI cO a ad C) A s.heap H locs → lv_has ls 5 [(0, .ref (a 4)), (2, .int x2), (3, rv ad o3)] → K12 C x2 o3 → W p l e (rmA 1 0 0) s m args below meth c H locs 0 0 (MQ below ((QV D (wC cI cO a ad) post) A) args s 0 0 A) (F0 m 12 ls [])) (n : Nat) : ∀ {C : CS} {x2 : Int32} {o3 : Option Nat} {x4 : Int32} {H : Heap} {locs : List Loc} {ls : Array Slot} (hH : HX D (wC cI cO a ad C) A s.heap H locs) (hl : lv_has ls 5 [(0, .ref (a 4)), (2, .int x2), (3, rv ad o3), (4, .int x4)]) (h : w_X0_layOut4_26 post K12 n C x2 o3 x4), W p l e (rmA 1 0 0) s m args below meth c H locs 0 0 (MQ below ((QV D (wC cI cO a ad) post) A) args s 0 0 A) (F0 m 26 ls []) := by
  induction n with
  | zero => intros; contradiction
  | succ n ih => intro C x2 o3 x4 H locs ls hH hl h; exact k_X0_layOut4_26b E hK12 (fun C x2 o3 x4 H locs ls hH hl h => ih hH hl h) hH hl h
set_option maxHeartbeats 4000000 in
set_option maxRecDepth 100000 in
theorem k_X0_layOut4_12b {post : CS → Prop} (E : Cx p s m args meth c cX0_layOut 5 RX0 none D (tyW cI cS cO))  {K12 : CS → Int32 → Option Nat → Prop} (hK12 : ∀ (C : CS) (x2 : Int32) (o3 : Option Nat) (H : Heap) (locs : List Loc) (ls : Array Slot), HX D (wC cI cO a ad C) A s.heap H locs → lv_has ls 5 [(0, .ref (a 4)), (2, .int x2), (3, rv ad o3)] → K12 C x2 o3 → W p l e (rmA 1 0 0) s m args below meth c H locs 0 0 (MQ below ((QV D (wC cI cO a ad) post) A) args s 0 0 A) (F0 m 12 ls [])) {C : CS} {x2 : Int32} {o3 : Option Nat} {H : Heap} {locs : List Loc} {ls : Array Slot} (hH : HX D (wC cI cO a ad C) A s.heap H locs) (hl : lv_has ls 5 [(0, .ref (a 4)), (2, .int x2), (3, rv ad o3)]) (h : w_X0_layOut4_12b post K12 C x2 o3) : W p l e (rmA 1 0 0) s m args below meth c H locs 0 0 (MQ below ((QV D (wC cI cO a ad) post) A) args s 0 0 A) (F0 m 12 ls []) := by
  have hx := E.1
  have hb := E.2.1
  unfold w_X0_layOut4_12b at h
  refine q_aload_n hx hb dX0_layOut_12 rfl (lv_at hl 2 rfl) ?_
  refine q_ifnull (tgt := 93) hx hb dX0_layOut_13 (by decide) (fun hc => ?_) (fun hc => ?_)
  · have h := h.1 hc
    exact x_vret E hH h dX0_layOut_93
  · have h := h.2 hc
    refine lv_iload_n hx hb dX0_layOut_16 rfl (lv_at hl 1 rfl) ?_
    refine lv_if_le (tgt := 93) hx hb dX0_layOut_17 (by decide) (fun hc => ?_) (fun hc => ?_)
    · have h := h.1 hc
      exact x_vret E hH h dX0_layOut_93
    · have h := h.2 hc
      refine q_aload_n hx hb dX0_layOut_20 rfl (lv_at hl 2 rfl) ?_
      obtain ⟨v3, rfl, hv4, h⟩ := h
      refine x_getN (ci := 2) (CN := RX2) (T := TX2) (N := 9) E in_X2 hH (17 + 3 * v3) (wC_v0 hv4) rfl 2 (by decide) kfn_X0_28 rfl dX0_layOut_21 ?_
      refine lv_istore (lv' := [(4, .int (cf C v3 2)), (0, .ref (a 4)), (2, .int x2), (3, .ref (ad (3 * v3)))]) hx hb dX0_layOut_24 hl (by decide) rfl (fun ls hl => ?_)
      obtain ⟨n, h⟩ := h
      exact k_X0_layOut4_26 E hK12 n hH (lv_sub hl [1, 2, 3, 0] rfl) h
theorem k_X0_layOut4_12 {post : CS → Prop} (E : Cx p s m args meth c cX0_layOut 5 RX0 none D (tyW cI cS cO))  (n : Nat) : ∀ {C : CS} {x2 : Int32} {o3 : Option Nat} {H : Heap} {locs : List Loc} {ls : Array Slot} (hH : HX D (wC cI cO a ad C) A s.heap H locs) (hl : lv_has ls 5 [(0, .ref (a 4)), (2, .int x2), (3, rv ad o3)]) (h : w_X0_layOut4_12 post n C x2 o3), W p l e (rmA 1 0 0) s m args below meth c H locs 0 0 (MQ below ((QV D (wC cI cO a ad) post) A) args s 0 0 A) (F0 m 12 ls []) := by
  induction n with
  | zero => intros; contradiction
  | succ n ih => intro C x2 o3 H locs ls hH hl h; exact k_X0_layOut4_12b E  (fun C x2 o3 H locs ls hH hl h => ih hH hl h) hH hl h
set_option maxHeartbeats 4000000 in
set_option maxRecDepth 100000 in
theorem c_X0_layOut4 {l : Launch} {D : va_G} {cI cS cO : ClassId} {a ad : Nat → Nat} {C : CS} {v1 : Nat} {post : CS → Prop} (h : w_X0_layOut4 post C v1) : MetX l D (tyW cI cS cO) yX0_layOut cX0_layOut 5 none 1 0 0 [.ref (a 4), .ref (ad (3 * v1))] (wC cI cO a ad C) (QV D (wC cI cO a ad) post) := by
  refine x_ent (by decide) (Nat.le_of_ble_eq_true rfl) ?_
  intro p e s m below meth c ls E _ hH hl
  have hx := E.1
  have hb := E.2.1
  generalize va_A (wC cI cO a ad C) s.heap.size = A at hH ⊢
  have hl : lv_has ls 5 [(0, .ref (a 4)), (1, .ref (ad (3 * v1)))] := hl
  unfold w_X0_layOut4 at h
  refine lv_aload_n hx hb dX0_layOut_0 rfl (lv_at hl 1 rfl) ?_
  obtain ⟨hv1, h⟩ := h
  refine x_getN (ci := 2) (CN := RX2) (T := TX2) (N := 9) E in_X2 hH (17 + 3 * v1) (wC_v0 hv1) rfl 3 (by decide) kfn_X0_21 rfl dX0_layOut_1 ?_
  refine lv_istore_n (lv' := [(2, .int (cf C v1 3)), (0, .ref (a 4)), (1, .ref (ad (3 * v1)))]) hx hb dX0_layOut_4 rfl hl (by decide) rfl (fun ls hl => ?_)
  refine lv_aload_n hx hb dX0_layOut_5 rfl (lv_at hl 1 rfl) ?_
  refine lv_iload_n hx hb dX0_layOut_6 rfl (lv_at hl 0 rfl) ?_
  refine x_puti (ci := 0) (CN := RX0) (T := TX0) (N := 4) E in_X0 tyX0 tyX0_ok nmX0 hH 4 wC_g4 rfl 3 (by decide) kf_X0_27 rfl (by decide +kernel) (Nat.le_of_ble_eq_true rfl) wC_z3 dX0_layOut_7 (fun H locs hH => ?_)
  refine lv_aload_n hx hb dX0_layOut_10 rfl (lv_at hl 2 rfl) ?_
  refine lv_astore_n (lv' := [(3, .ref (ad (3 * v1))), (2, .int (cf C v1 3)), (0, .ref (a 4)), (1, .ref (ad (3 * v1)))]) hx hb dX0_layOut_11 rfl hl (by decide) rfl (fun ls hl => ?_)
  obtain ⟨n, h⟩ := h
  exact k_X0_layOut4_12 E  n hH (lv_sub hl [2, 1, 0] rfl) h
set_option maxHeartbeats 4000000 in
set_option maxRecDepth 100000 in
theorem k_X0_layOut8_26b {post : CS → Prop} (E : Cx p s m args meth c cX0_layOut 5 RX0 none D (tyW cI cS cO)) {K12 : CS → Int32 → Option Nat → Prop} (hK12 : ∀ (C : CS) (x2 : Int32) (o3 : Option Nat) (H : Heap) (locs : List Loc) (ls : Array Slot), HX D (wC cI cO a ad C) A s.heap H locs → lv_has ls 5 [(0, .ref (a 8)), (2, .int x2), (3, rv ad o3)] → K12 C x2 o3 → W p l e (rmA 1 0 0) s m args below meth c H locs 0 0 (MQ below ((QV D (wC cI cO a ad) post) A) args s 0 0 A) (F0 m 12 ls [])) {K26 : CS → Int32 → Option Nat → Int32 → Prop} (hK26 : ∀ (C : CS) (x2 : Int32) (o3 : Option Nat) (x4 : Int32) (H : Heap) (locs : List Loc) (ls : Array Slot), HX D (wC cI cO a ad C) A s.heap H locs → lv_has ls 5 [(0, .ref (a 8)), (2, .int x2), (3, rv ad o3), (4, .int x4)] → K26 C x2 o3 x4 → W p l e (rmA 1 0 0) s m args below meth c H locs 0 0 (MQ below ((QV D (wC cI cO a ad) post) A) args s 0 0 A) (F0 m 26 ls [])) {C : CS} {x2 : Int32} {o3 : Option Nat} {x4 : Int32} {H : Heap} {locs : List Loc} {ls : Array Slot} (hH : HX D (wC cI cO a ad C) A s.heap H locs) (hl : lv_has ls 5 [(0, .ref (a 8)), (2, .int x2), (3, rv ad o3), (4, .int x4)]) (h : w_X0_layOut8_26b post K12 K26 C x2 o3 x4) : W p l e (rmA 1 0 0) s m args below meth c H locs 0 0 (MQ below ((QV D (wC cI cO a ad) post) A) args s 0 0 A) (F0 m 26 ls []) := by
  have hx := E.1
  have hb := E.2.1
  unfold w_X0_layOut8_26b at h
  refine lv_iload hx hb dX0_layOut_26 (lv_at hl 3 rfl) ?_
  refine lv_iload_n hx hb dX0_layOut_28 rfl (lv_at hl 1 rfl) ?_
  refine lv_icmp_ge (tgt := 76) hx hb dX0_layOut_29 (by decide) (fun hc => ?_) (fun hc => ?_)
  · have h := h.1 hc
    refine lv_iload_n hx hb dX0_layOut_76 rfl (lv_at hl 1 rfl) ?_
    refine q_aload_n hx hb dX0_layOut_77 rfl (lv_at hl 2 rfl) ?_
    obtain ⟨v6, rfl, hv7, h⟩ := h
    refine x_getN (ci := 2) (CN := RX2) (T := TX2) (N := 9) E in_X2 hH (17 + 3 * v6) (wC_v0 hv7) rfl 2 (by decide) kfn_X0_28 rfl dX0_layOut_78 ?_
    refine va_mmin hx hb (E.2.2.1.trans hl.1.symm) E.2.2.2.1 (E.2.2.2.2.1 _ km_X0_37) (E.2.2.2.2.1 _ km_min_s) (E.2.2.2.2.1 _ km_math) (E.2.2.2.2.1 _ km_min_c) (by decide) (by decide) (by decide) (by decide) dX0_layOut_81 ?_
    refine lv_istore_n (lv' := [(2, .int (if (cf C v6 2) < x2 then (cf C v6 2) else x2)), (0, .ref (a 8)), (3, .ref (ad (3 * v6))), (4, .int x4)]) hx hb dX0_layOut_84 rfl hl (by decide) rfl (fun ls hl => ?_)
    refine lv_aload_n hx hb dX0_layOut_85 rfl (lv_at hl 2 rfl) ?_
    refine x_getN (ci := 2) (CN := RX2) (T := TX2) (N := 9) E in_X2 hH (17 + 3 * v6) (wC_v0 hv7) rfl 1 (by decide) kfn_X0_43 rfl dX0_layOut_86 ?_
    refine q_top (ad := ad) (x := cp C v6) (fun w8 ew8 => ?_)
    have h := h w8 ew8
    refine q_astore_n (i := 3) (lv' := [(2, .int (if (cf C v6 2) < x2 then (cf C v6 2) else x2)), (0, .ref (a 8)), (4, .int x4)]) hx hb dX0_layOut_89 rfl hl (by decide) (fun _ => rfl) (fun ls hl => ?_)
    refine lv_goto (tgt := 12) hx hb dX0_layOut_90 (by decide) ?_
    exact hK12 _ _ _ _ _ _ hH (lv_sub hl [2, 1, 0] rfl) h
  · have h := h.2 hc
    refine lv_aload_n hx hb dX0_layOut_32 rfl (lv_at hl 0 rfl) ?_
    refine x_get (ci := 0) (CN := RX0) (T := TX0) (N := 4) E in_X0 hH 8 wC_g8 rfl 0 (by decide) kf_X0_9 rfl dX0_layOut_33 ?_
    refine lv_iload hx hb dX0_layOut_36 (lv_at hl 3 rfl) ?_
    refine q_aload_n hx hb dX0_layOut_38 rfl (lv_at hl 2 rfl) ?_
    obtain ⟨v9, rfl, hv10, h⟩ := h
    refine x_getN (ci := 2) (CN := RX2) (T := TX2) (N := 9) E in_X2 hH (17 + 3 * v9) (wC_v0 hv10) rfl 4 (by decide) kfn_X0_31 rfl dX0_layOut_39 ?_
    refine lv_iload hx hb dX0_layOut_42 (lv_at hl 3 rfl) ?_
    refine lv_aload_n hx hb dX0_layOut_44 rfl (lv_at hl 2 rfl) ?_
    refine x_getN (ci := 2) (CN := RX2) (T := TX2) (N := 9) E in_X2 hH (17 + 3 * v9) (wC_v0 hv10) rfl 2 (by decide) kfn_X0_28 rfl dX0_layOut_45 ?_
    refine lv_isub hx hb dX0_layOut_48 ?_
    obtain ⟨hi11, h⟩ := h
    refine x_iald E hH (17 + (3 * v9 + 1)) 0 (wC_v1 hv10) rfl hi11 dX0_layOut_49 ?_
    obtain ⟨hi12, h⟩ := h
    refine x_iast E hH 9 0 wC_g9 rfl hi12 wC_s9 dX0_layOut_50 (fun H locs hH => ?_)
    refine lv_aload_n hx hb dX0_layOut_51 rfl (lv_at hl 0 rfl) ?_
    refine x_get (ci := 0) (CN := RX0) (T := TX0) (N := 4) E in_X0 hH 8 wC_g8 rfl 1 (by decide) kf_X0_15 rfl dX0_layOut_52 ?_
    refine lv_iload hx hb dX0_layOut_55 (lv_at hl 3 rfl) ?_
    refine lv_aload_n hx hb dX0_layOut_57 rfl (lv_at hl 2 rfl) ?_
    refine x_getN (ci := 2) (CN := RX2) (T := TX2) (N := 9) E in_X2 hH (17 + 3 * v9) (wC_v0 hv10) rfl 5 (by decide) kfn_X0_34 rfl dX0_layOut_58 ?_
    refine lv_iload hx hb dX0_layOut_61 (lv_at hl 3 rfl) ?_
    refine lv_aload_n hx hb dX0_layOut_63 rfl (lv_at hl 2 rfl) ?_
    refine x_getN (ci := 2) (CN := RX2) (T := TX2) (N := 9) E in_X2 hH (17 + 3 * v9) (wC_v0 hv10) rfl 2 (by decide) kfn_X0_28 rfl dX0_layOut_64 ?_
    refine lv_isub hx hb dX0_layOut_67 ?_
    refine x_iald E hH (17 + (3 * v9 + 2)) 0 (wC_v2 hv10) rfl hi11 dX0_layOut_68 ?_
    refine x_iast E hH 10 0 wC_g10 rfl hi12 wC_s10 dX0_layOut_69 (fun H locs hH => ?_)
    refine lv_iinc (v := (x4 + 1)) (lv' := [(4, .int (x4 + 1)), (0, .ref (a 8)), (2, .int x2), (3, .ref (ad (3 * v9)))]) hx hb dX0_layOut_70 hl (k := 3) rfl rfl (by decide) rfl (fun ls hl => ?_)
    refine lv_goto (tgt := 26) hx hb dX0_layOut_73 (by decide) ?_
    exact hK26 _ _ _ _ _ _ _ hH (lv_sub hl [1, 2, 3, 0] rfl) h
theorem k_X0_layOut8_26 {post : CS → Prop} (E : Cx p s m args meth c cX0_layOut 5 RX0 none D (tyW cI cS cO)) {K12 : CS → Int32 → Option Nat → Prop} (hK12 : ∀ (C : CS) (x2 : Int32) (o3 : Option Nat) (H : Heap) (locs : List Loc) (ls : Array Slot), HX D (wC cI cO a ad C) A s.heap H locs → lv_has ls 5 [(0, .ref (a 8)), (2, .int x2), (3, rv ad o3)] → K12 C x2 o3 → W p l e (rmA 1 0 0) s m args below meth c H locs 0 0 (MQ below ((QV D (wC cI cO a ad) post) A) args s 0 0 A) (F0 m 12 ls [])) (n : Nat) : ∀ {C : CS} {x2 : Int32} {o3 : Option Nat} {x4 : Int32} {H : Heap} {locs : List Loc} {ls : Array Slot} (hH : HX D (wC cI cO a ad C) A s.heap H locs) (hl : lv_has ls 5 [(0, .ref (a 8)), (2, .int x2), (3, rv ad o3), (4, .int x4)]) (h : w_X0_layOut8_26 post K12 n C x2 o3 x4), W p l e (rmA 1 0 0) s m args below meth c H locs 0 0 (MQ below ((QV D (wC cI cO a ad) post) A) args s 0 0 A) (F0 m 26 ls []) := by
  induction n with
  | zero => intros; contradiction
  | succ n ih => intro C x2 o3 x4 H locs ls hH hl h; exact k_X0_layOut8_26b E hK12 (fun C x2 o3 x4 H locs ls hH hl h => ih hH hl h) hH hl h
set_option maxHeartbeats 4000000 in
set_option maxRecDepth 100000 in
theorem k_X0_layOut8_12b {post : CS → Prop} (E : Cx p s m args meth c cX0_layOut 5 RX0 none D (tyW cI cS cO))  {K12 : CS → Int32 → Option Nat → Prop} (hK12 : ∀ (C : CS) (x2 : Int32) (o3 : Option Nat) (H : Heap) (locs : List Loc) (ls : Array Slot), HX D (wC cI cO a ad C) A s.heap H locs → lv_has ls 5 [(0, .ref (a 8)), (2, .int x2), (3, rv ad o3)] → K12 C x2 o3 → W p l e (rmA 1 0 0) s m args below meth c H locs 0 0 (MQ below ((QV D (wC cI cO a ad) post) A) args s 0 0 A) (F0 m 12 ls [])) {C : CS} {x2 : Int32} {o3 : Option Nat} {H : Heap} {locs : List Loc} {ls : Array Slot} (hH : HX D (wC cI cO a ad C) A s.heap H locs) (hl : lv_has ls 5 [(0, .ref (a 8)), (2, .int x2), (3, rv ad o3)]) (h : w_X0_layOut8_12b post K12 C x2 o3) : W p l e (rmA 1 0 0) s m args below meth c H locs 0 0 (MQ below ((QV D (wC cI cO a ad) post) A) args s 0 0 A) (F0 m 12 ls []) := by
  have hx := E.1
  have hb := E.2.1
  unfold w_X0_layOut8_12b at h
  refine q_aload_n hx hb dX0_layOut_12 rfl (lv_at hl 2 rfl) ?_
  refine q_ifnull (tgt := 93) hx hb dX0_layOut_13 (by decide) (fun hc => ?_) (fun hc => ?_)
  · have h := h.1 hc
    exact x_vret E hH h dX0_layOut_93
  · have h := h.2 hc
    refine lv_iload_n hx hb dX0_layOut_16 rfl (lv_at hl 1 rfl) ?_
    refine lv_if_le (tgt := 93) hx hb dX0_layOut_17 (by decide) (fun hc => ?_) (fun hc => ?_)
    · have h := h.1 hc
      exact x_vret E hH h dX0_layOut_93
    · have h := h.2 hc
      refine q_aload_n hx hb dX0_layOut_20 rfl (lv_at hl 2 rfl) ?_
      obtain ⟨v3, rfl, hv4, h⟩ := h
      refine x_getN (ci := 2) (CN := RX2) (T := TX2) (N := 9) E in_X2 hH (17 + 3 * v3) (wC_v0 hv4) rfl 2 (by decide) kfn_X0_28 rfl dX0_layOut_21 ?_
      refine lv_istore (lv' := [(4, .int (cf C v3 2)), (0, .ref (a 8)), (2, .int x2), (3, .ref (ad (3 * v3)))]) hx hb dX0_layOut_24 hl (by decide) rfl (fun ls hl => ?_)
      obtain ⟨n, h⟩ := h
      exact k_X0_layOut8_26 E hK12 n hH (lv_sub hl [1, 2, 3, 0] rfl) h
theorem k_X0_layOut8_12 {post : CS → Prop} (E : Cx p s m args meth c cX0_layOut 5 RX0 none D (tyW cI cS cO))  (n : Nat) : ∀ {C : CS} {x2 : Int32} {o3 : Option Nat} {H : Heap} {locs : List Loc} {ls : Array Slot} (hH : HX D (wC cI cO a ad C) A s.heap H locs) (hl : lv_has ls 5 [(0, .ref (a 8)), (2, .int x2), (3, rv ad o3)]) (h : w_X0_layOut8_12 post n C x2 o3), W p l e (rmA 1 0 0) s m args below meth c H locs 0 0 (MQ below ((QV D (wC cI cO a ad) post) A) args s 0 0 A) (F0 m 12 ls []) := by
  induction n with
  | zero => intros; contradiction
  | succ n ih => intro C x2 o3 H locs ls hH hl h; exact k_X0_layOut8_12b E  (fun C x2 o3 H locs ls hH hl h => ih hH hl h) hH hl h
set_option maxHeartbeats 4000000 in
set_option maxRecDepth 100000 in
theorem c_X0_layOut8 {l : Launch} {D : va_G} {cI cS cO : ClassId} {a ad : Nat → Nat} {C : CS} {v1 : Nat} {post : CS → Prop} (h : w_X0_layOut8 post C v1) : MetX l D (tyW cI cS cO) yX0_layOut cX0_layOut 5 none 1 0 0 [.ref (a 8), .ref (ad (3 * v1))] (wC cI cO a ad C) (QV D (wC cI cO a ad) post) := by
  refine x_ent (by decide) (Nat.le_of_ble_eq_true rfl) ?_
  intro p e s m below meth c ls E _ hH hl
  have hx := E.1
  have hb := E.2.1
  generalize va_A (wC cI cO a ad C) s.heap.size = A at hH ⊢
  have hl : lv_has ls 5 [(0, .ref (a 8)), (1, .ref (ad (3 * v1)))] := hl
  unfold w_X0_layOut8 at h
  refine lv_aload_n hx hb dX0_layOut_0 rfl (lv_at hl 1 rfl) ?_
  obtain ⟨hv1, h⟩ := h
  refine x_getN (ci := 2) (CN := RX2) (T := TX2) (N := 9) E in_X2 hH (17 + 3 * v1) (wC_v0 hv1) rfl 3 (by decide) kfn_X0_21 rfl dX0_layOut_1 ?_
  refine lv_istore_n (lv' := [(2, .int (cf C v1 3)), (0, .ref (a 8)), (1, .ref (ad (3 * v1)))]) hx hb dX0_layOut_4 rfl hl (by decide) rfl (fun ls hl => ?_)
  refine lv_aload_n hx hb dX0_layOut_5 rfl (lv_at hl 1 rfl) ?_
  refine lv_iload_n hx hb dX0_layOut_6 rfl (lv_at hl 0 rfl) ?_
  refine x_puti (ci := 0) (CN := RX0) (T := TX0) (N := 4) E in_X0 tyX0 tyX0_ok nmX0 hH 8 wC_g8 rfl 3 (by decide) kf_X0_27 rfl (by decide +kernel) (Nat.le_of_ble_eq_true rfl) wC_z4 dX0_layOut_7 (fun H locs hH => ?_)
  refine lv_aload_n hx hb dX0_layOut_10 rfl (lv_at hl 2 rfl) ?_
  refine lv_astore_n (lv' := [(3, .ref (ad (3 * v1))), (2, .int (cf C v1 3)), (0, .ref (a 8)), (1, .ref (ad (3 * v1)))]) hx hb dX0_layOut_11 rfl hl (by decide) rfl (fun ls hl => ?_)
  obtain ⟨n, h⟩ := h
  exact k_X0_layOut8_12 E  n hH (lv_sub hl [2, 1, 0] rfl) h
set_option maxHeartbeats 4000000 in
set_option maxRecDepth 100000 in
theorem k_X0_countBelow_26 {post : Int32 → CS → Prop} (E : Cx p s m args meth c cX0_countBelow 6 RX0 (some .int) D (tyW cI cS cO)) {K6 : CS → Int32 → Int32 → Int32 → Int32 → Prop} (hK6 : ∀ (C : CS) (x2 : Int32) (x3 : Int32) (x4 : Int32) (x5 : Int32) (H : Heap) (locs : List Loc) (ls : Array Slot), HX D (wC cI cO a ad C) A s.heap H locs → lv_has ls 6 [(0, .ref (a 4)), (2, .int x2), (3, .int x3), (4, .int x4), (5, .int x5)] → K6 C x2 x3 x4 x5 → W p l e (rmA 0 0 0) s m args below meth c H locs 0 0 (MQ below ((QI D (wC cI cO a ad) post) A) args s 0 0 A) (F0 m 6 ls [])) {C : CS} {x2 : Int32} {x3 : Int32} {x4 : Int32} {x5 : Int32} {H : Heap} {locs : List Loc} {ls : Array Slot} (hH : HX D (wC cI cO a ad C) A s.heap H locs) (hl : lv_has ls 6 [(0, .ref (a 4)), (2, .int x2), (3, .int x3), (4, .int x4), (5, .int x5)]) (h : w_X0_countBelow_26 post K6 C x2 x3 x4 x5) : W p l e (rmA 0 0 0) s m args below meth c H locs 0 0 (MQ below ((QI D (wC cI cO a ad) post) A) args s 0 0 A) (F0 m 26 ls []) := by
  have hx := E.1
  have hb := E.2.1
  unfold w_X0_countBelow_26 at h
  refine lv_iinc (v := (x5 + 1)) (lv' := [(5, .int (x5 + 1)), (0, .ref (a 4)), (2, .int x2), (3, .int x3), (4, .int x4)]) hx hb dX0_countBelow_26 hl (k := 4) rfl rfl (by decide) rfl (fun ls hl => ?_)
  refine lv_goto (tgt := 6) hx hb dX0_countBelow_29 (by decide) ?_
  exact hK6 _ _ _ _ _ _ _ _ hH (lv_sub hl [1, 2, 3, 4, 0] rfl) h
set_option maxHeartbeats 4000000 in
set_option maxRecDepth 100000 in
theorem k_X0_countBelow_6b {post : Int32 → CS → Prop} (E : Cx p s m args meth c cX0_countBelow 6 RX0 (some .int) D (tyW cI cS cO))  {K6 : CS → Int32 → Int32 → Int32 → Int32 → Prop} (hK6 : ∀ (C : CS) (x2 : Int32) (x3 : Int32) (x4 : Int32) (x5 : Int32) (H : Heap) (locs : List Loc) (ls : Array Slot), HX D (wC cI cO a ad C) A s.heap H locs → lv_has ls 6 [(0, .ref (a 4)), (2, .int x2), (3, .int x3), (4, .int x4), (5, .int x5)] → K6 C x2 x3 x4 x5 → W p l e (rmA 0 0 0) s m args below meth c H locs 0 0 (MQ below ((QI D (wC cI cO a ad) post) A) args s 0 0 A) (F0 m 6 ls [])) {C : CS} {x2 : Int32} {x3 : Int32} {x4 : Int32} {x5 : Int32} {H : Heap} {locs : List Loc} {ls : Array Slot} (hH : HX D (wC cI cO a ad C) A s.heap H locs) (hl : lv_has ls 6 [(0, .ref (a 4)), (2, .int x2), (3, .int x3), (4, .int x4), (5, .int x5)]) (h : w_X0_countBelow_6b post K6 C x2 x3 x4 x5) : W p l e (rmA 0 0 0) s m args below meth c H locs 0 0 (MQ below ((QI D (wC cI cO a ad) post) A) args s 0 0 A) (F0 m 6 ls []) := by
  have hx := E.1
  have hb := E.2.1
  unfold w_X0_countBelow_6b at h
  refine lv_iload hx hb dX0_countBelow_6 (lv_at hl 4 rfl) ?_
  refine lv_iload_n hx hb dX0_countBelow_8 rfl (lv_at hl 1 rfl) ?_
  refine lv_icmp_ge (tgt := 32) hx hb dX0_countBelow_9 (by decide) (fun hc => ?_) (fun hc => ?_)
  · have h := h.1 hc
    refine lv_iload hx hb dX0_countBelow_32 (lv_at hl 3 rfl) ?_
    exact x_iret E hH h dX0_countBelow_34
  · have h := h.2 hc
    refine lv_aload_n hx hb dX0_countBelow_12 rfl (lv_at hl 0 rfl) ?_
    refine x_get (ci := 0) (CN := RX0) (T := TX0) (N := 4) E in_X0 hH 4 wC_g4 rfl 0 (by decide) kf_X0_9 rfl dX0_countBelow_13 ?_
    refine lv_iload hx hb dX0_countBelow_16 (lv_at hl 4 rfl) ?_
    obtain ⟨hi2, h⟩ := h
    refine x_iald E hH 5 0 wC_g5 rfl hi2 dX0_countBelow_18 ?_
    refine lv_iload_n hx hb dX0_countBelow_19 rfl (lv_at hl 2 rfl) ?_
    refine lv_icmp_ge (tgt := 26) hx hb dX0_countBelow_20 (by decide) (fun hc => ?_) (fun hc => ?_)
    · have h := h.1 hc
      exact k_X0_countBelow_26 E hK6 hH (lv_sub hl [0, 1, 2, 3, 4] rfl) h
    · have h := h.2 hc
      refine lv_iinc (v := (x4 + 1)) (lv' := [(4, .int (x4 + 1)), (0, .ref (a 4)), (2, .int x2), (3, .int x3), (5, .int x5)]) hx hb dX0_countBelow_23 hl (k := 3) rfl rfl (by decide) rfl (fun ls hl => ?_)
      exact k_X0_countBelow_26 E hK6 hH (lv_sub hl [1, 2, 3, 0, 4] rfl) h
theorem k_X0_countBelow_6 {post : Int32 → CS → Prop} (E : Cx p s m args meth c cX0_countBelow 6 RX0 (some .int) D (tyW cI cS cO))  (n : Nat) : ∀ {C : CS} {x2 : Int32} {x3 : Int32} {x4 : Int32} {x5 : Int32} {H : Heap} {locs : List Loc} {ls : Array Slot} (hH : HX D (wC cI cO a ad C) A s.heap H locs) (hl : lv_has ls 6 [(0, .ref (a 4)), (2, .int x2), (3, .int x3), (4, .int x4), (5, .int x5)]) (h : w_X0_countBelow_6 post n C x2 x3 x4 x5), W p l e (rmA 0 0 0) s m args below meth c H locs 0 0 (MQ below ((QI D (wC cI cO a ad) post) A) args s 0 0 A) (F0 m 6 ls []) := by
  induction n with
  | zero => intros; contradiction
  | succ n ih => intro C x2 x3 x4 x5 H locs ls hH hl h; exact k_X0_countBelow_6b E  (fun C x2 x3 x4 x5 H locs ls hH hl h => ih hH hl h) hH hl h
set_option maxHeartbeats 4000000 in
set_option maxRecDepth 100000 in
theorem c_X0_countBelow {l : Launch} {D : va_G} {cI cS cO : ClassId} {a ad : Nat → Nat} {C : CS} {x1 : Int32} {x2 : Int32} {x3 : Int32} {post : Int32 → CS → Prop} (h : w_X0_countBelow post C x1 x2 x3) : MetX l D (tyW cI cS cO) yX0_countBelow cX0_countBelow 6 (some .int) 0 0 0 [.ref (a 4), .int x1, .int x2, .int x3] (wC cI cO a ad C) (QI D (wC cI cO a ad) post) := by
  refine x_ent (by decide) (Nat.le_of_ble_eq_true rfl) ?_
  intro p e s m below meth c ls E _ hH hl
  have hx := E.1
  have hb := E.2.1
  generalize va_A (wC cI cO a ad C) s.heap.size = A at hH ⊢
  have hl : lv_has ls 6 [(0, .ref (a 4)), (1, .int x1), (2, .int x2), (3, .int x3)] := hl
  unfold w_X0_countBelow at h
  refine lv_iconst (v := (0 : Int32)) hx hb dX0_countBelow_0 (by decide) ?_
  refine lv_istore (lv' := [(4, .int (0 : Int32)), (0, .ref (a 4)), (1, .int x1), (2, .int x2), (3, .int x3)]) hx hb dX0_countBelow_1 hl (by decide) rfl (fun ls hl => ?_)
  refine lv_iload_n hx hb dX0_countBelow_3 rfl (lv_at hl 2 rfl) ?_
  refine lv_istore (lv' := [(5, .int x1), (4, .int (0 : Int32)), (0, .ref (a 4)), (1, .int x1), (2, .int x2), (3, .int x3)]) hx hb dX0_countBelow_4 hl (by decide) rfl (fun ls hl => ?_)
  obtain ⟨n, h⟩ := h
  exact k_X0_countBelow_6 E  n hH (lv_sub hl [2, 4, 5, 1, 0] rfl) h
set_option maxHeartbeats 4000000 in
set_option maxRecDepth 100000 in
theorem k_X0_countWithin_38 {post : Int32 → CS → Prop} (E : Cx p s m args meth c cX0_countWithin 7 RX0 (some .int) D (tyW cI cS cO)) {K6 : CS → Int32 → Int32 → Int32 → Int32 → Int32 → Prop} (hK6 : ∀ (C : CS) (x2 : Int32) (x3 : Int32) (x4 : Int32) (x5 : Int32) (x6 : Int32) (H : Heap) (locs : List Loc) (ls : Array Slot), HX D (wC cI cO a ad C) A s.heap H locs → lv_has ls 7 [(0, .ref (a 4)), (2, .int x2), (3, .int x3), (4, .int x4), (5, .int x5), (6, .int x6)] → K6 C x2 x3 x4 x5 x6 → W p l e (rmA 0 0 0) s m args below meth c H locs 0 0 (MQ below ((QI D (wC cI cO a ad) post) A) args s 0 0 A) (F0 m 6 ls [])) {C : CS} {x2 : Int32} {x3 : Int32} {x4 : Int32} {x5 : Int32} {x6 : Int32} {H : Heap} {locs : List Loc} {ls : Array Slot} (hH : HX D (wC cI cO a ad C) A s.heap H locs) (hl : lv_has ls 7 [(0, .ref (a 4)), (2, .int x2), (3, .int x3), (4, .int x4), (5, .int x5), (6, .int x6)]) (h : w_X0_countWithin_38 post K6 C x2 x3 x4 x5 x6) : W p l e (rmA 0 0 0) s m args below meth c H locs 0 0 (MQ below ((QI D (wC cI cO a ad) post) A) args s 0 0 A) (F0 m 38 ls []) := by
  have hx := E.1
  have hb := E.2.1
  unfold w_X0_countWithin_38 at h
  refine lv_iinc (v := (x6 + 1)) (lv' := [(6, .int (x6 + 1)), (0, .ref (a 4)), (2, .int x2), (3, .int x3), (4, .int x4), (5, .int x5)]) hx hb dX0_countWithin_38 hl (k := 5) rfl rfl (by decide) rfl (fun ls hl => ?_)
  refine lv_goto (tgt := 6) hx hb dX0_countWithin_41 (by decide) ?_
  exact hK6 _ _ _ _ _ _ _ _ _ hH (lv_sub hl [1, 2, 3, 4, 5, 0] rfl) h
set_option maxHeartbeats 4000000 in
set_option maxRecDepth 100000 in
theorem k_X0_countWithin_6b {post : Int32 → CS → Prop} (E : Cx p s m args meth c cX0_countWithin 7 RX0 (some .int) D (tyW cI cS cO))  {K6 : CS → Int32 → Int32 → Int32 → Int32 → Int32 → Prop} (hK6 : ∀ (C : CS) (x2 : Int32) (x3 : Int32) (x4 : Int32) (x5 : Int32) (x6 : Int32) (H : Heap) (locs : List Loc) (ls : Array Slot), HX D (wC cI cO a ad C) A s.heap H locs → lv_has ls 7 [(0, .ref (a 4)), (2, .int x2), (3, .int x3), (4, .int x4), (5, .int x5), (6, .int x6)] → K6 C x2 x3 x4 x5 x6 → W p l e (rmA 0 0 0) s m args below meth c H locs 0 0 (MQ below ((QI D (wC cI cO a ad) post) A) args s 0 0 A) (F0 m 6 ls [])) {C : CS} {x2 : Int32} {x3 : Int32} {x4 : Int32} {x5 : Int32} {x6 : Int32} {H : Heap} {locs : List Loc} {ls : Array Slot} (hH : HX D (wC cI cO a ad C) A s.heap H locs) (hl : lv_has ls 7 [(0, .ref (a 4)), (2, .int x2), (3, .int x3), (4, .int x4), (5, .int x5), (6, .int x6)]) (h : w_X0_countWithin_6b post K6 C x2 x3 x4 x5 x6) : W p l e (rmA 0 0 0) s m args below meth c H locs 0 0 (MQ below ((QI D (wC cI cO a ad) post) A) args s 0 0 A) (F0 m 6 ls []) := by
  have hx := E.1
  have hb := E.2.1
  unfold w_X0_countWithin_6b at h
  refine lv_iload hx hb dX0_countWithin_6 (lv_at hl 5 rfl) ?_
  refine lv_iload_n hx hb dX0_countWithin_8 rfl (lv_at hl 1 rfl) ?_
  refine lv_icmp_ge (tgt := 44) hx hb dX0_countWithin_9 (by decide) (fun hc => ?_) (fun hc => ?_)
  · have h := h.1 hc
    refine lv_iload hx hb dX0_countWithin_44 (lv_at hl 4 rfl) ?_
    exact x_iret E hH h dX0_countWithin_46
  · have h := h.2 hc
    refine lv_aload_n hx hb dX0_countWithin_12 rfl (lv_at hl 0 rfl) ?_
    refine x_get (ci := 0) (CN := RX0) (T := TX0) (N := 4) E in_X0 hH 4 wC_g4 rfl 0 (by decide) kf_X0_9 rfl dX0_countWithin_13 ?_
    refine lv_iload hx hb dX0_countWithin_16 (lv_at hl 5 rfl) ?_
    obtain ⟨hi2, h⟩ := h
    refine x_iald E hH 5 0 wC_g5 rfl hi2 dX0_countWithin_18 ?_
    refine lv_iload_n hx hb dX0_countWithin_19 rfl (lv_at hl 2 rfl) ?_
    refine lv_icmp_lt (tgt := 38) hx hb dX0_countWithin_20 (by decide) (fun hc => ?_) (fun hc => ?_)
    · have h := h.1 hc
      exact k_X0_countWithin_38 E hK6 hH (lv_sub hl [0, 1, 2, 3, 4, 5] rfl) h
    · have h := h.2 hc
      refine lv_aload_n hx hb dX0_countWithin_23 rfl (lv_at hl 0 rfl) ?_
      refine x_get (ci := 0) (CN := RX0) (T := TX0) (N := 4) E in_X0 hH 4 wC_g4 rfl 0 (by decide) kf_X0_9 rfl dX0_countWithin_24 ?_
      refine lv_iload hx hb dX0_countWithin_27 (lv_at hl 5 rfl) ?_
      refine x_iald E hH 5 0 wC_g5 rfl hi2 dX0_countWithin_29 ?_
      refine lv_iload hx hb dX0_countWithin_30 (lv_at hl 3 rfl) ?_
      refine lv_icmp_gt (tgt := 38) hx hb dX0_countWithin_32 (by decide) (fun hc => ?_) (fun hc => ?_)
      · have h := h.1 hc
        exact k_X0_countWithin_38 E hK6 hH (lv_sub hl [0, 1, 2, 3, 4, 5] rfl) h
      · have h := h.2 hc
        refine lv_iinc (v := (x5 + 1)) (lv' := [(5, .int (x5 + 1)), (0, .ref (a 4)), (2, .int x2), (3, .int x3), (4, .int x4), (6, .int x6)]) hx hb dX0_countWithin_35 hl (k := 4) rfl rfl (by decide) rfl (fun ls hl => ?_)
        exact k_X0_countWithin_38 E hK6 hH (lv_sub hl [1, 2, 3, 4, 0, 5] rfl) h
theorem k_X0_countWithin_6 {post : Int32 → CS → Prop} (E : Cx p s m args meth c cX0_countWithin 7 RX0 (some .int) D (tyW cI cS cO))  (n : Nat) : ∀ {C : CS} {x2 : Int32} {x3 : Int32} {x4 : Int32} {x5 : Int32} {x6 : Int32} {H : Heap} {locs : List Loc} {ls : Array Slot} (hH : HX D (wC cI cO a ad C) A s.heap H locs) (hl : lv_has ls 7 [(0, .ref (a 4)), (2, .int x2), (3, .int x3), (4, .int x4), (5, .int x5), (6, .int x6)]) (h : w_X0_countWithin_6 post n C x2 x3 x4 x5 x6), W p l e (rmA 0 0 0) s m args below meth c H locs 0 0 (MQ below ((QI D (wC cI cO a ad) post) A) args s 0 0 A) (F0 m 6 ls []) := by
  induction n with
  | zero => intros; contradiction
  | succ n ih => intro C x2 x3 x4 x5 x6 H locs ls hH hl h; exact k_X0_countWithin_6b E  (fun C x2 x3 x4 x5 x6 H locs ls hH hl h => ih hH hl h) hH hl h
set_option maxHeartbeats 4000000 in
set_option maxRecDepth 100000 in
theorem c_X0_countWithin {l : Launch} {D : va_G} {cI cS cO : ClassId} {a ad : Nat → Nat} {C : CS} {x1 : Int32} {x2 : Int32} {x3 : Int32} {x4 : Int32} {post : Int32 → CS → Prop} (h : w_X0_countWithin post C x1 x2 x3 x4) : MetX l D (tyW cI cS cO) yX0_countWithin cX0_countWithin 7 (some .int) 0 0 0 [.ref (a 4), .int x1, .int x2, .int x3, .int x4] (wC cI cO a ad C) (QI D (wC cI cO a ad) post) := by
  refine x_ent (by decide) (Nat.le_of_ble_eq_true rfl) ?_
  intro p e s m below meth c ls E _ hH hl
  have hx := E.1
  have hb := E.2.1
  generalize va_A (wC cI cO a ad C) s.heap.size = A at hH ⊢
  have hl : lv_has ls 7 [(0, .ref (a 4)), (1, .int x1), (2, .int x2), (3, .int x3), (4, .int x4)] := hl
  unfold w_X0_countWithin at h
  refine lv_iconst (v := (0 : Int32)) hx hb dX0_countWithin_0 (by decide) ?_
  refine lv_istore (lv' := [(5, .int (0 : Int32)), (0, .ref (a 4)), (1, .int x1), (2, .int x2), (3, .int x3), (4, .int x4)]) hx hb dX0_countWithin_1 hl (by decide) rfl (fun ls hl => ?_)
  refine lv_iload_n hx hb dX0_countWithin_3 rfl (lv_at hl 2 rfl) ?_
  refine lv_istore (lv' := [(6, .int x1), (5, .int (0 : Int32)), (0, .ref (a 4)), (1, .int x1), (2, .int x2), (3, .int x3), (4, .int x4)]) hx hb dX0_countWithin_4 hl (by decide) rfl (fun ls hl => ?_)
  obtain ⟨n, h⟩ := h
  exact k_X0_countWithin_6 E  n hH (lv_sub hl [2, 4, 5, 6, 1, 0] rfl) h
set_option maxHeartbeats 4000000 in
set_option maxRecDepth 100000 in
theorem k_X0_weighBelow_36 {post : Int64 → CS → Prop} (E : Cx p s m args meth c cX0_weighBelow 7 RX0 (some .long) D (tyW cI cS cO)) {K6 : CS → Int32 → Int32 → Int64 → Int32 → Prop} (hK6 : ∀ (C : CS) (x2 : Int32) (x3 : Int32) (y4 : Int64) (x6 : Int32) (H : Heap) (locs : List Loc) (ls : Array Slot), HX D (wC cI cO a ad C) A s.heap H locs → lv_has ls 7 [(0, .ref (a 4)), (2, .int x2), (3, .int x3), (4, .long y4), (6, .int x6)] → K6 C x2 x3 y4 x6 → W p l e (rmA 0 0 0) s m args below meth c H locs 0 0 (MQ below ((QL D (wC cI cO a ad) post) A) args s 0 0 A) (F0 m 6 ls [])) {C : CS} {x2 : Int32} {x3 : Int32} {y4 : Int64} {x6 : Int32} {H : Heap} {locs : List Loc} {ls : Array Slot} (hH : HX D (wC cI cO a ad C) A s.heap H locs) (hl : lv_has ls 7 [(0, .ref (a 4)), (2, .int x2), (3, .int x3), (4, .long y4), (6, .int x6)]) (h : w_X0_weighBelow_36 post K6 C x2 x3 y4 x6) : W p l e (rmA 0 0 0) s m args below meth c H locs 0 0 (MQ below ((QL D (wC cI cO a ad) post) A) args s 0 0 A) (F0 m 36 ls []) := by
  have hx := E.1
  have hb := E.2.1
  unfold w_X0_weighBelow_36 at h
  refine lv_iinc (v := (x6 + 1)) (lv' := [(6, .int (x6 + 1)), (0, .ref (a 4)), (2, .int x2), (3, .int x3), (4, .long y4)]) hx hb dX0_weighBelow_36 hl (k := 4) rfl rfl (by decide) rfl (fun ls hl => ?_)
  refine lv_goto (tgt := 6) hx hb dX0_weighBelow_39 (by decide) ?_
  exact hK6 _ _ _ _ _ _ _ _ hH (lv_sub hl [1, 2, 3, 4, 0] rfl) h
set_option maxHeartbeats 4000000 in
set_option maxRecDepth 100000 in
theorem k_X0_weighBelow_6b {post : Int64 → CS → Prop} (E : Cx p s m args meth c cX0_weighBelow 7 RX0 (some .long) D (tyW cI cS cO))  {K6 : CS → Int32 → Int32 → Int64 → Int32 → Prop} (hK6 : ∀ (C : CS) (x2 : Int32) (x3 : Int32) (y4 : Int64) (x6 : Int32) (H : Heap) (locs : List Loc) (ls : Array Slot), HX D (wC cI cO a ad C) A s.heap H locs → lv_has ls 7 [(0, .ref (a 4)), (2, .int x2), (3, .int x3), (4, .long y4), (6, .int x6)] → K6 C x2 x3 y4 x6 → W p l e (rmA 0 0 0) s m args below meth c H locs 0 0 (MQ below ((QL D (wC cI cO a ad) post) A) args s 0 0 A) (F0 m 6 ls [])) {C : CS} {x2 : Int32} {x3 : Int32} {y4 : Int64} {x6 : Int32} {H : Heap} {locs : List Loc} {ls : Array Slot} (hH : HX D (wC cI cO a ad C) A s.heap H locs) (hl : lv_has ls 7 [(0, .ref (a 4)), (2, .int x2), (3, .int x3), (4, .long y4), (6, .int x6)]) (h : w_X0_weighBelow_6b post K6 C x2 x3 y4 x6) : W p l e (rmA 0 0 0) s m args below meth c H locs 0 0 (MQ below ((QL D (wC cI cO a ad) post) A) args s 0 0 A) (F0 m 6 ls []) := by
  have hx := E.1
  have hb := E.2.1
  unfold w_X0_weighBelow_6b at h
  refine lv_iload hx hb dX0_weighBelow_6 (lv_at hl 4 rfl) ?_
  refine lv_iload_n hx hb dX0_weighBelow_8 rfl (lv_at hl 1 rfl) ?_
  refine lv_icmp_ge (tgt := 42) hx hb dX0_weighBelow_9 (by decide) (fun hc => ?_) (fun hc => ?_)
  · have h := h.1 hc
    refine lv_lload hx hb dX0_weighBelow_42 (lv_at hl 3 rfl) ?_
    exact x_lret E hH h dX0_weighBelow_44
  · have h := h.2 hc
    refine lv_aload_n hx hb dX0_weighBelow_12 rfl (lv_at hl 0 rfl) ?_
    refine x_get (ci := 0) (CN := RX0) (T := TX0) (N := 4) E in_X0 hH 4 wC_g4 rfl 0 (by decide) kf_X0_9 rfl dX0_weighBelow_13 ?_
    refine lv_iload hx hb dX0_weighBelow_16 (lv_at hl 4 rfl) ?_
    obtain ⟨hi2, h⟩ := h
    refine x_iald E hH 5 0 wC_g5 rfl hi2 dX0_weighBelow_18 ?_
    refine lv_iload_n hx hb dX0_weighBelow_19 rfl (lv_at hl 2 rfl) ?_
    refine lv_icmp_ge (tgt := 36) hx hb dX0_weighBelow_20 (by decide) (fun hc => ?_) (fun hc => ?_)
    · have h := h.1 hc
      exact k_X0_weighBelow_36 E hK6 hH (lv_sub hl [0, 1, 2, 3, 4] rfl) h
    · have h := h.2 hc
      refine lv_lload hx hb dX0_weighBelow_23 (lv_at hl 3 rfl) ?_
      refine lv_aload_n hx hb dX0_weighBelow_25 rfl (lv_at hl 0 rfl) ?_
      refine x_get (ci := 0) (CN := RX0) (T := TX0) (N := 4) E in_X0 hH 4 wC_g4 rfl 1 (by decide) kf_X0_15 rfl dX0_weighBelow_26 ?_
      refine lv_iload hx hb dX0_weighBelow_29 (lv_at hl 4 rfl) ?_
      refine x_iald E hH 6 0 wC_g6 rfl hi2 dX0_weighBelow_31 ?_
      refine lv_i2l hx hb dX0_weighBelow_32 rfl ?_
      refine lv_ladd hx hb dX0_weighBelow_33 ?_
      refine lv_lstore (lv' := [(4, .long (y4 + (Int32.toInt64 ((cr C 6) (Int32.toNatClampNeg x6))))), (0, .ref (a 4)), (2, .int x2), (3, .int x3), (6, .int x6)]) hx hb dX0_weighBelow_34 hl (by decide) rfl (fun ls hl => ?_)
      exact k_X0_weighBelow_36 E hK6 hH (lv_sub hl [1, 2, 3, 0, 4] rfl) h
theorem k_X0_weighBelow_6 {post : Int64 → CS → Prop} (E : Cx p s m args meth c cX0_weighBelow 7 RX0 (some .long) D (tyW cI cS cO))  (n : Nat) : ∀ {C : CS} {x2 : Int32} {x3 : Int32} {y4 : Int64} {x6 : Int32} {H : Heap} {locs : List Loc} {ls : Array Slot} (hH : HX D (wC cI cO a ad C) A s.heap H locs) (hl : lv_has ls 7 [(0, .ref (a 4)), (2, .int x2), (3, .int x3), (4, .long y4), (6, .int x6)]) (h : w_X0_weighBelow_6 post n C x2 x3 y4 x6), W p l e (rmA 0 0 0) s m args below meth c H locs 0 0 (MQ below ((QL D (wC cI cO a ad) post) A) args s 0 0 A) (F0 m 6 ls []) := by
  induction n with
  | zero => intros; contradiction
  | succ n ih => intro C x2 x3 y4 x6 H locs ls hH hl h; exact k_X0_weighBelow_6b E  (fun C x2 x3 y4 x6 H locs ls hH hl h => ih hH hl h) hH hl h
set_option maxHeartbeats 4000000 in
set_option maxRecDepth 100000 in
theorem c_X0_weighBelow {l : Launch} {D : va_G} {cI cS cO : ClassId} {a ad : Nat → Nat} {C : CS} {x1 : Int32} {x2 : Int32} {x3 : Int32} {post : Int64 → CS → Prop} (h : w_X0_weighBelow post C x1 x2 x3) : MetX l D (tyW cI cS cO) yX0_weighBelow cX0_weighBelow 7 (some .long) 0 0 0 [.ref (a 4), .int x1, .int x2, .int x3] (wC cI cO a ad C) (QL D (wC cI cO a ad) post) := by
  refine x_ent (by decide) (Nat.le_of_ble_eq_true rfl) ?_
  intro p e s m below meth c ls E _ hH hl
  have hx := E.1
  have hb := E.2.1
  generalize va_A (wC cI cO a ad C) s.heap.size = A at hH ⊢
  have hl : lv_has ls 7 [(0, .ref (a 4)), (1, .int x1), (2, .int x2), (3, .int x3)] := hl
  unfold w_X0_weighBelow at h
  refine lv_lconst (v := (0 : Int64)) hx hb dX0_weighBelow_0 (by decide) ?_
  refine lv_lstore (lv' := [(4, .long (0 : Int64)), (0, .ref (a 4)), (1, .int x1), (2, .int x2), (3, .int x3)]) hx hb dX0_weighBelow_1 hl (by decide) rfl (fun ls hl => ?_)
  refine lv_iload_n hx hb dX0_weighBelow_3 rfl (lv_at hl 2 rfl) ?_
  refine lv_istore (lv' := [(6, .int x1), (4, .long (0 : Int64)), (0, .ref (a 4)), (1, .int x1), (2, .int x2), (3, .int x3)]) hx hb dX0_weighBelow_4 hl (by decide) rfl (fun ls hl => ?_)
  obtain ⟨n, h⟩ := h
  exact k_X0_weighBelow_6 E  n hH (lv_sub hl [2, 4, 5, 1, 0] rfl) h
set_option maxHeartbeats 4000000 in
set_option maxRecDepth 100000 in
theorem k_X0_leastFrom_52 {post : Int32 → CS → Prop} (E : Cx p s m args meth c cX0_leastFrom 6 RX0 (some .int) D (tyW cI cS cO)) {K7 : CS → Int32 → Int32 → Int32 → Int32 → Prop} (hK7 : ∀ (C : CS) (x2 : Int32) (x3 : Int32) (x4 : Int32) (x5 : Int32) (H : Heap) (locs : List Loc) (ls : Array Slot), HX D (wC cI cO a ad C) A s.heap H locs → lv_has ls 6 [(0, .ref (a 4)), (2, .int x2), (3, .int x3), (4, .int x4), (5, .int x5)] → K7 C x2 x3 x4 x5 → W p l e (rmA 0 0 0) s m args below meth c H locs 0 0 (MQ below ((QI D (wC cI cO a ad) post) A) args s 0 0 A) (F0 m 7 ls [])) {C : CS} {x2 : Int32} {x3 : Int32} {x4 : Int32} {x5 : Int32} {H : Heap} {locs : List Loc} {ls : Array Slot} (hH : HX D (wC cI cO a ad C) A s.heap H locs) (hl : lv_has ls 6 [(0, .ref (a 4)), (2, .int x2), (3, .int x3), (4, .int x4), (5, .int x5)]) (h : w_X0_leastFrom_52 post K7 C x2 x3 x4 x5) : W p l e (rmA 0 0 0) s m args below meth c H locs 0 0 (MQ below ((QI D (wC cI cO a ad) post) A) args s 0 0 A) (F0 m 52 ls []) := by
  have hx := E.1
  have hb := E.2.1
  unfold w_X0_leastFrom_52 at h
  refine lv_iinc (v := (x5 + 1)) (lv' := [(5, .int (x5 + 1)), (0, .ref (a 4)), (2, .int x2), (3, .int x3), (4, .int x4)]) hx hb dX0_leastFrom_52 hl (k := 4) rfl rfl (by decide) rfl (fun ls hl => ?_)
  refine lv_goto (tgt := 7) hx hb dX0_leastFrom_55 (by decide) ?_
  exact hK7 _ _ _ _ _ _ _ _ hH (lv_sub hl [1, 2, 3, 4, 0] rfl) h
set_option maxHeartbeats 4000000 in
set_option maxRecDepth 100000 in
theorem k_X0_leastFrom_43 {post : Int32 → CS → Prop} (E : Cx p s m args meth c cX0_leastFrom 6 RX0 (some .int) D (tyW cI cS cO)) {K7 : CS → Int32 → Int32 → Int32 → Int32 → Prop} (hK7 : ∀ (C : CS) (x2 : Int32) (x3 : Int32) (x4 : Int32) (x5 : Int32) (H : Heap) (locs : List Loc) (ls : Array Slot), HX D (wC cI cO a ad C) A s.heap H locs → lv_has ls 6 [(0, .ref (a 4)), (2, .int x2), (3, .int x3), (4, .int x4), (5, .int x5)] → K7 C x2 x3 x4 x5 → W p l e (rmA 0 0 0) s m args below meth c H locs 0 0 (MQ below ((QI D (wC cI cO a ad) post) A) args s 0 0 A) (F0 m 7 ls [])) {C : CS} {x2 : Int32} {x3 : Int32} {x5 : Int32} {H : Heap} {locs : List Loc} {ls : Array Slot} (hH : HX D (wC cI cO a ad C) A s.heap H locs) (hl : lv_has ls 6 [(0, .ref (a 4)), (2, .int x2), (3, .int x3), (5, .int x5)]) (h : w_X0_leastFrom_43 post K7 C x2 x3 x5) : W p l e (rmA 0 0 0) s m args below meth c H locs 0 0 (MQ below ((QI D (wC cI cO a ad) post) A) args s 0 0 A) (F0 m 43 ls []) := by
  have hx := E.1
  have hb := E.2.1
  unfold w_X0_leastFrom_43 at h
  refine lv_aload_n hx hb dX0_leastFrom_43 rfl (lv_at hl 0 rfl) ?_
  refine x_get (ci := 0) (CN := RX0) (T := TX0) (N := 4) E in_X0 hH 4 wC_g4 rfl 0 (by decide) kf_X0_9 rfl dX0_leastFrom_44 ?_
  refine lv_iload hx hb dX0_leastFrom_47 (lv_at hl 3 rfl) ?_
  obtain ⟨hi3, h⟩ := h
  refine x_iald E hH 5 0 wC_g5 rfl hi3 dX0_leastFrom_49 ?_
  refine lv_istore (lv' := [(4, .int ((cr C 5) (Int32.toNatClampNeg x5))), (0, .ref (a 4)), (2, .int x2), (3, .int x3), (5, .int x5)]) hx hb dX0_leastFrom_50 hl (by decide) rfl (fun ls hl => ?_)
  exact k_X0_leastFrom_52 E hK7 hH (lv_sub hl [1, 2, 3, 0, 4] rfl) h
set_option maxHeartbeats 4000000 in
set_option maxRecDepth 100000 in
theorem k_X0_leastFrom_7b {post : Int32 → CS → Prop} (E : Cx p s m args meth c cX0_leastFrom 6 RX0 (some .int) D (tyW cI cS cO))  {K7 : CS → Int32 → Int32 → Int32 → Int32 → Prop} (hK7 : ∀ (C : CS) (x2 : Int32) (x3 : Int32) (x4 : Int32) (x5 : Int32) (H : Heap) (locs : List Loc) (ls : Array Slot), HX D (wC cI cO a ad C) A s.heap H locs → lv_has ls 6 [(0, .ref (a 4)), (2, .int x2), (3, .int x3), (4, .int x4), (5, .int x5)] → K7 C x2 x3 x4 x5 → W p l e (rmA 0 0 0) s m args below meth c H locs 0 0 (MQ below ((QI D (wC cI cO a ad) post) A) args s 0 0 A) (F0 m 7 ls [])) {C : CS} {x2 : Int32} {x3 : Int32} {x4 : Int32} {x5 : Int32} {H : Heap} {locs : List Loc} {ls : Array Slot} (hH : HX D (wC cI cO a ad C) A s.heap H locs) (hl : lv_has ls 6 [(0, .ref (a 4)), (2, .int x2), (3, .int x3), (4, .int x4), (5, .int x5)]) (h : w_X0_leastFrom_7b post K7 C x2 x3 x4 x5) : W p l e (rmA 0 0 0) s m args below meth c H locs 0 0 (MQ below ((QI D (wC cI cO a ad) post) A) args s 0 0 A) (F0 m 7 ls []) := by
  have hx := E.1
  have hb := E.2.1
  unfold w_X0_leastFrom_7b at h
  refine lv_iload hx hb dX0_leastFrom_7 (lv_at hl 4 rfl) ?_
  refine lv_iload_n hx hb dX0_leastFrom_9 rfl (lv_at hl 1 rfl) ?_
  refine lv_icmp_ge (tgt := 58) hx hb dX0_leastFrom_10 (by decide) (fun hc => ?_) (fun hc => ?_)
  · have h := h.1 hc
    refine lv_iload hx hb dX0_leastFrom_58 (lv_at hl 3 rfl) ?_
    exact x_iret E hH h dX0_leastFrom_60
  · have h := h.2 hc
    refine lv_aload_n hx hb dX0_leastFrom_13 rfl (lv_at hl 0 rfl) ?_
    refine x_get (ci := 0) (CN := RX0) (T := TX0) (N := 4) E in_X0 hH 4 wC_g4 rfl 0 (by decide) kf_X0_9 rfl dX0_leastFrom_14 ?_
    refine lv_iload hx hb dX0_leastFrom_17 (lv_at hl 4 rfl) ?_
    obtain ⟨hi2, h⟩ := h
    refine x_iald E hH 5 0 wC_g5 rfl hi2 dX0_leastFrom_19 ?_
    refine lv_iload_n hx hb dX0_leastFrom_20 rfl (lv_at hl 2 rfl) ?_
    refine lv_icmp_lt (tgt := 52) hx hb dX0_leastFrom_21 (by decide) (fun hc => ?_) (fun hc => ?_)
    · have h := h.1 hc
      exact k_X0_leastFrom_52 E hK7 hH (lv_sub hl [0, 1, 2, 3, 4] rfl) h
    · have h := h.2 hc
      refine lv_iload hx hb dX0_leastFrom_24 (lv_at hl 3 rfl) ?_
      refine lv_bipush (v := (-6 : Int32)) hx hb dX0_leastFrom_26 (by decide) ?_
      refine lv_icmp_eq (tgt := 43) hx hb dX0_leastFrom_28 (by decide) (fun hc => ?_) (fun hc => ?_)
      · have h := h.1 hc
        exact k_X0_leastFrom_43 E hK7 hH (lv_sub hl [0, 1, 2, 4] rfl) h
      · have h := h.2 hc
        refine lv_aload_n hx hb dX0_leastFrom_31 rfl (lv_at hl 0 rfl) ?_
        refine x_get (ci := 0) (CN := RX0) (T := TX0) (N := 4) E in_X0 hH 4 wC_g4 rfl 0 (by decide) kf_X0_9 rfl dX0_leastFrom_32 ?_
        refine lv_iload hx hb dX0_leastFrom_35 (lv_at hl 4 rfl) ?_
        refine x_iald E hH 5 0 wC_g5 rfl hi2 dX0_leastFrom_37 ?_
        refine lv_iload hx hb dX0_leastFrom_38 (lv_at hl 3 rfl) ?_
        refine lv_icmp_ge (tgt := 52) hx hb dX0_leastFrom_40 (by decide) (fun hc => ?_) (fun hc => ?_)
        · have h := h.1 hc
          exact k_X0_leastFrom_52 E hK7 hH (lv_sub hl [0, 1, 2, 3, 4] rfl) h
        · have h := h.2 hc
          exact k_X0_leastFrom_43 E hK7 hH (lv_sub hl [0, 1, 2, 4] rfl) h
theorem k_X0_leastFrom_7 {post : Int32 → CS → Prop} (E : Cx p s m args meth c cX0_leastFrom 6 RX0 (some .int) D (tyW cI cS cO))  (n : Nat) : ∀ {C : CS} {x2 : Int32} {x3 : Int32} {x4 : Int32} {x5 : Int32} {H : Heap} {locs : List Loc} {ls : Array Slot} (hH : HX D (wC cI cO a ad C) A s.heap H locs) (hl : lv_has ls 6 [(0, .ref (a 4)), (2, .int x2), (3, .int x3), (4, .int x4), (5, .int x5)]) (h : w_X0_leastFrom_7 post n C x2 x3 x4 x5), W p l e (rmA 0 0 0) s m args below meth c H locs 0 0 (MQ below ((QI D (wC cI cO a ad) post) A) args s 0 0 A) (F0 m 7 ls []) := by
  induction n with
  | zero => intros; contradiction
  | succ n ih => intro C x2 x3 x4 x5 H locs ls hH hl h; exact k_X0_leastFrom_7b E  (fun C x2 x3 x4 x5 H locs ls hH hl h => ih hH hl h) hH hl h
set_option maxHeartbeats 4000000 in
set_option maxRecDepth 100000 in
theorem c_X0_leastFrom {l : Launch} {D : va_G} {cI cS cO : ClassId} {a ad : Nat → Nat} {C : CS} {x1 : Int32} {x2 : Int32} {x3 : Int32} {post : Int32 → CS → Prop} (h : w_X0_leastFrom post C x1 x2 x3) : MetX l D (tyW cI cS cO) yX0_leastFrom cX0_leastFrom 6 (some .int) 0 0 0 [.ref (a 4), .int x1, .int x2, .int x3] (wC cI cO a ad C) (QI D (wC cI cO a ad) post) := by
  refine x_ent (by decide) (Nat.le_of_ble_eq_true rfl) ?_
  intro p e s m below meth c ls E _ hH hl
  have hx := E.1
  have hb := E.2.1
  generalize va_A (wC cI cO a ad C) s.heap.size = A at hH ⊢
  have hl : lv_has ls 6 [(0, .ref (a 4)), (1, .int x1), (2, .int x2), (3, .int x3)] := hl
  unfold w_X0_leastFrom at h
  refine lv_bipush (v := (-6 : Int32)) hx hb dX0_leastFrom_0 (by decide) ?_
  refine lv_istore (lv' := [(4, .int (-6 : Int32)), (0, .ref (a 4)), (1, .int x1), (2, .int x2), (3, .int x3)]) hx hb dX0_leastFrom_2 hl (by decide) rfl (fun ls hl => ?_)
  refine lv_iload_n hx hb dX0_leastFrom_4 rfl (lv_at hl 2 rfl) ?_
  refine lv_istore (lv' := [(5, .int x1), (4, .int (-6 : Int32)), (0, .ref (a 4)), (1, .int x1), (2, .int x2), (3, .int x3)]) hx hb dX0_leastFrom_5 hl (by decide) rfl (fun ls hl => ?_)
  obtain ⟨n, h⟩ := h
  exact k_X0_leastFrom_7 E  n hH (lv_sub hl [2, 4, 5, 1, 0] rfl) h
set_option maxHeartbeats 4000000 in
set_option maxRecDepth 100000 in
theorem k_X0_greatestTo_52 {post : Int32 → CS → Prop} (E : Cx p s m args meth c cX0_greatestTo 6 RX0 (some .int) D (tyW cI cS cO)) {K7 : CS → Int32 → Int32 → Int32 → Int32 → Prop} (hK7 : ∀ (C : CS) (x2 : Int32) (x3 : Int32) (x4 : Int32) (x5 : Int32) (H : Heap) (locs : List Loc) (ls : Array Slot), HX D (wC cI cO a ad C) A s.heap H locs → lv_has ls 6 [(0, .ref (a 4)), (2, .int x2), (3, .int x3), (4, .int x4), (5, .int x5)] → K7 C x2 x3 x4 x5 → W p l e (rmA 0 0 0) s m args below meth c H locs 0 0 (MQ below ((QI D (wC cI cO a ad) post) A) args s 0 0 A) (F0 m 7 ls [])) {C : CS} {x2 : Int32} {x3 : Int32} {x4 : Int32} {x5 : Int32} {H : Heap} {locs : List Loc} {ls : Array Slot} (hH : HX D (wC cI cO a ad C) A s.heap H locs) (hl : lv_has ls 6 [(0, .ref (a 4)), (2, .int x2), (3, .int x3), (4, .int x4), (5, .int x5)]) (h : w_X0_greatestTo_52 post K7 C x2 x3 x4 x5) : W p l e (rmA 0 0 0) s m args below meth c H locs 0 0 (MQ below ((QI D (wC cI cO a ad) post) A) args s 0 0 A) (F0 m 52 ls []) := by
  have hx := E.1
  have hb := E.2.1
  unfold w_X0_greatestTo_52 at h
  refine lv_iinc (v := (x5 + 1)) (lv' := [(5, .int (x5 + 1)), (0, .ref (a 4)), (2, .int x2), (3, .int x3), (4, .int x4)]) hx hb dX0_greatestTo_52 hl (k := 4) rfl rfl (by decide) rfl (fun ls hl => ?_)
  refine lv_goto (tgt := 7) hx hb dX0_greatestTo_55 (by decide) ?_
  exact hK7 _ _ _ _ _ _ _ _ hH (lv_sub hl [1, 2, 3, 4, 0] rfl) h
set_option maxHeartbeats 4000000 in
set_option maxRecDepth 100000 in
theorem k_X0_greatestTo_43 {post : Int32 → CS → Prop} (E : Cx p s m args meth c cX0_greatestTo 6 RX0 (some .int) D (tyW cI cS cO)) {K7 : CS → Int32 → Int32 → Int32 → Int32 → Prop} (hK7 : ∀ (C : CS) (x2 : Int32) (x3 : Int32) (x4 : Int32) (x5 : Int32) (H : Heap) (locs : List Loc) (ls : Array Slot), HX D (wC cI cO a ad C) A s.heap H locs → lv_has ls 6 [(0, .ref (a 4)), (2, .int x2), (3, .int x3), (4, .int x4), (5, .int x5)] → K7 C x2 x3 x4 x5 → W p l e (rmA 0 0 0) s m args below meth c H locs 0 0 (MQ below ((QI D (wC cI cO a ad) post) A) args s 0 0 A) (F0 m 7 ls [])) {C : CS} {x2 : Int32} {x3 : Int32} {x5 : Int32} {H : Heap} {locs : List Loc} {ls : Array Slot} (hH : HX D (wC cI cO a ad C) A s.heap H locs) (hl : lv_has ls 6 [(0, .ref (a 4)), (2, .int x2), (3, .int x3), (5, .int x5)]) (h : w_X0_greatestTo_43 post K7 C x2 x3 x5) : W p l e (rmA 0 0 0) s m args below meth c H locs 0 0 (MQ below ((QI D (wC cI cO a ad) post) A) args s 0 0 A) (F0 m 43 ls []) := by
  have hx := E.1
  have hb := E.2.1
  unfold w_X0_greatestTo_43 at h
  refine lv_aload_n hx hb dX0_greatestTo_43 rfl (lv_at hl 0 rfl) ?_
  refine x_get (ci := 0) (CN := RX0) (T := TX0) (N := 4) E in_X0 hH 4 wC_g4 rfl 0 (by decide) kf_X0_9 rfl dX0_greatestTo_44 ?_
  refine lv_iload hx hb dX0_greatestTo_47 (lv_at hl 3 rfl) ?_
  obtain ⟨hi3, h⟩ := h
  refine x_iald E hH 5 0 wC_g5 rfl hi3 dX0_greatestTo_49 ?_
  refine lv_istore (lv' := [(4, .int ((cr C 5) (Int32.toNatClampNeg x5))), (0, .ref (a 4)), (2, .int x2), (3, .int x3), (5, .int x5)]) hx hb dX0_greatestTo_50 hl (by decide) rfl (fun ls hl => ?_)
  exact k_X0_greatestTo_52 E hK7 hH (lv_sub hl [1, 2, 3, 0, 4] rfl) h
set_option maxHeartbeats 4000000 in
set_option maxRecDepth 100000 in
theorem k_X0_greatestTo_7b {post : Int32 → CS → Prop} (E : Cx p s m args meth c cX0_greatestTo 6 RX0 (some .int) D (tyW cI cS cO))  {K7 : CS → Int32 → Int32 → Int32 → Int32 → Prop} (hK7 : ∀ (C : CS) (x2 : Int32) (x3 : Int32) (x4 : Int32) (x5 : Int32) (H : Heap) (locs : List Loc) (ls : Array Slot), HX D (wC cI cO a ad C) A s.heap H locs → lv_has ls 6 [(0, .ref (a 4)), (2, .int x2), (3, .int x3), (4, .int x4), (5, .int x5)] → K7 C x2 x3 x4 x5 → W p l e (rmA 0 0 0) s m args below meth c H locs 0 0 (MQ below ((QI D (wC cI cO a ad) post) A) args s 0 0 A) (F0 m 7 ls [])) {C : CS} {x2 : Int32} {x3 : Int32} {x4 : Int32} {x5 : Int32} {H : Heap} {locs : List Loc} {ls : Array Slot} (hH : HX D (wC cI cO a ad C) A s.heap H locs) (hl : lv_has ls 6 [(0, .ref (a 4)), (2, .int x2), (3, .int x3), (4, .int x4), (5, .int x5)]) (h : w_X0_greatestTo_7b post K7 C x2 x3 x4 x5) : W p l e (rmA 0 0 0) s m args below meth c H locs 0 0 (MQ below ((QI D (wC cI cO a ad) post) A) args s 0 0 A) (F0 m 7 ls []) := by
  have hx := E.1
  have hb := E.2.1
  unfold w_X0_greatestTo_7b at h
  refine lv_iload hx hb dX0_greatestTo_7 (lv_at hl 4 rfl) ?_
  refine lv_iload_n hx hb dX0_greatestTo_9 rfl (lv_at hl 1 rfl) ?_
  refine lv_icmp_ge (tgt := 58) hx hb dX0_greatestTo_10 (by decide) (fun hc => ?_) (fun hc => ?_)
  · have h := h.1 hc
    refine lv_iload hx hb dX0_greatestTo_58 (lv_at hl 3 rfl) ?_
    exact x_iret E hH h dX0_greatestTo_60
  · have h := h.2 hc
    refine lv_aload_n hx hb dX0_greatestTo_13 rfl (lv_at hl 0 rfl) ?_
    refine x_get (ci := 0) (CN := RX0) (T := TX0) (N := 4) E in_X0 hH 4 wC_g4 rfl 0 (by decide) kf_X0_9 rfl dX0_greatestTo_14 ?_
    refine lv_iload hx hb dX0_greatestTo_17 (lv_at hl 4 rfl) ?_
    obtain ⟨hi2, h⟩ := h
    refine x_iald E hH 5 0 wC_g5 rfl hi2 dX0_greatestTo_19 ?_
    refine lv_iload_n hx hb dX0_greatestTo_20 rfl (lv_at hl 2 rfl) ?_
    refine lv_icmp_gt (tgt := 52) hx hb dX0_greatestTo_21 (by decide) (fun hc => ?_) (fun hc => ?_)
    · have h := h.1 hc
      exact k_X0_greatestTo_52 E hK7 hH (lv_sub hl [0, 1, 2, 3, 4] rfl) h
    · have h := h.2 hc
      refine lv_iload hx hb dX0_greatestTo_24 (lv_at hl 3 rfl) ?_
      refine lv_bipush (v := (-6 : Int32)) hx hb dX0_greatestTo_26 (by decide) ?_
      refine lv_icmp_eq (tgt := 43) hx hb dX0_greatestTo_28 (by decide) (fun hc => ?_) (fun hc => ?_)
      · have h := h.1 hc
        exact k_X0_greatestTo_43 E hK7 hH (lv_sub hl [0, 1, 2, 4] rfl) h
      · have h := h.2 hc
        refine lv_aload_n hx hb dX0_greatestTo_31 rfl (lv_at hl 0 rfl) ?_
        refine x_get (ci := 0) (CN := RX0) (T := TX0) (N := 4) E in_X0 hH 4 wC_g4 rfl 0 (by decide) kf_X0_9 rfl dX0_greatestTo_32 ?_
        refine lv_iload hx hb dX0_greatestTo_35 (lv_at hl 4 rfl) ?_
        refine x_iald E hH 5 0 wC_g5 rfl hi2 dX0_greatestTo_37 ?_
        refine lv_iload hx hb dX0_greatestTo_38 (lv_at hl 3 rfl) ?_
        refine lv_icmp_le (tgt := 52) hx hb dX0_greatestTo_40 (by decide) (fun hc => ?_) (fun hc => ?_)
        · have h := h.1 hc
          exact k_X0_greatestTo_52 E hK7 hH (lv_sub hl [0, 1, 2, 3, 4] rfl) h
        · have h := h.2 hc
          exact k_X0_greatestTo_43 E hK7 hH (lv_sub hl [0, 1, 2, 4] rfl) h
theorem k_X0_greatestTo_7 {post : Int32 → CS → Prop} (E : Cx p s m args meth c cX0_greatestTo 6 RX0 (some .int) D (tyW cI cS cO))  (n : Nat) : ∀ {C : CS} {x2 : Int32} {x3 : Int32} {x4 : Int32} {x5 : Int32} {H : Heap} {locs : List Loc} {ls : Array Slot} (hH : HX D (wC cI cO a ad C) A s.heap H locs) (hl : lv_has ls 6 [(0, .ref (a 4)), (2, .int x2), (3, .int x3), (4, .int x4), (5, .int x5)]) (h : w_X0_greatestTo_7 post n C x2 x3 x4 x5), W p l e (rmA 0 0 0) s m args below meth c H locs 0 0 (MQ below ((QI D (wC cI cO a ad) post) A) args s 0 0 A) (F0 m 7 ls []) := by
  induction n with
  | zero => intros; contradiction
  | succ n ih => intro C x2 x3 x4 x5 H locs ls hH hl h; exact k_X0_greatestTo_7b E  (fun C x2 x3 x4 x5 H locs ls hH hl h => ih hH hl h) hH hl h
set_option maxHeartbeats 4000000 in
set_option maxRecDepth 100000 in
theorem c_X0_greatestTo {l : Launch} {D : va_G} {cI cS cO : ClassId} {a ad : Nat → Nat} {C : CS} {x1 : Int32} {x2 : Int32} {x3 : Int32} {post : Int32 → CS → Prop} (h : w_X0_greatestTo post C x1 x2 x3) : MetX l D (tyW cI cS cO) yX0_greatestTo cX0_greatestTo 6 (some .int) 0 0 0 [.ref (a 4), .int x1, .int x2, .int x3] (wC cI cO a ad C) (QI D (wC cI cO a ad) post) := by
  refine x_ent (by decide) (Nat.le_of_ble_eq_true rfl) ?_
  intro p e s m below meth c ls E _ hH hl
  have hx := E.1
  have hb := E.2.1
  generalize va_A (wC cI cO a ad C) s.heap.size = A at hH ⊢
  have hl : lv_has ls 6 [(0, .ref (a 4)), (1, .int x1), (2, .int x2), (3, .int x3)] := hl
  unfold w_X0_greatestTo at h
  refine lv_bipush (v := (-6 : Int32)) hx hb dX0_greatestTo_0 (by decide) ?_
  refine lv_istore (lv' := [(4, .int (-6 : Int32)), (0, .ref (a 4)), (1, .int x1), (2, .int x2), (3, .int x3)]) hx hb dX0_greatestTo_2 hl (by decide) rfl (fun ls hl => ?_)
  refine lv_iload_n hx hb dX0_greatestTo_4 rfl (lv_at hl 2 rfl) ?_
  refine lv_istore (lv' := [(5, .int x1), (4, .int (-6 : Int32)), (0, .ref (a 4)), (1, .int x1), (2, .int x2), (3, .int x3)]) hx hb dX0_greatestTo_5 hl (by decide) rfl (fun ls hl => ?_)
  obtain ⟨n, h⟩ := h
  exact k_X0_greatestTo_7 E  n hH (lv_sub hl [2, 4, 5, 1, 0] rfl) h
set_option maxHeartbeats 4000000 in
set_option maxRecDepth 100000 in
theorem k_X0_countOnes_5b {post : Int32 → CS → Prop} (E : Cx p s m args meth c cX0_countOnes 5 RX0 (some .int) D (tyW cI cS cO))  {K5 : CS → Int32 → Int32 → Int32 → Int32 → Prop} (hK5 : ∀ (C : CS) (x1 : Int32) (x2 : Int32) (x3 : Int32) (x4 : Int32) (H : Heap) (locs : List Loc) (ls : Array Slot), HX D (wC cI cO a ad C) A s.heap H locs → lv_has ls 5 [(0, .ref (a 4)), (1, .int x1), (2, .int x2), (3, .int x3), (4, .int x4)] → K5 C x1 x2 x3 x4 → W p l e (rmA 0 0 0) s m args below meth c H locs 0 0 (MQ below ((QI D (wC cI cO a ad) post) A) args s 0 0 A) (F0 m 5 ls [])) {C : CS} {x1 : Int32} {x2 : Int32} {x3 : Int32} {x4 : Int32} {H : Heap} {locs : List Loc} {ls : Array Slot} (hH : HX D (wC cI cO a ad C) A s.heap H locs) (hl : lv_has ls 5 [(0, .ref (a 4)), (1, .int x1), (2, .int x2), (3, .int x3), (4, .int x4)]) (h : w_X0_countOnes_5b post K5 C x1 x2 x3 x4) : W p l e (rmA 0 0 0) s m args below meth c H locs 0 0 (MQ below ((QI D (wC cI cO a ad) post) A) args s 0 0 A) (F0 m 5 ls []) := by
  have hx := E.1
  have hb := E.2.1
  unfold w_X0_countOnes_5b at h
  refine lv_iload hx hb dX0_countOnes_5 (lv_at hl 4 rfl) ?_
  refine lv_iload_n hx hb dX0_countOnes_7 rfl (lv_at hl 2 rfl) ?_
  refine lv_icmp_ge (tgt := 31) hx hb dX0_countOnes_8 (by decide) (fun hc => ?_) (fun hc => ?_)
  · have h := h.1 hc
    refine lv_iload_n hx hb dX0_countOnes_31 rfl (lv_at hl 3 rfl) ?_
    exact x_iret E hH h dX0_countOnes_32
  · have h := h.2 hc
    refine lv_iload_n hx hb dX0_countOnes_11 rfl (lv_at hl 3 rfl) ?_
    refine lv_aload_n hx hb dX0_countOnes_12 rfl (lv_at hl 0 rfl) ?_
    refine x_get (ci := 0) (CN := RX0) (T := TX0) (N := 4) E in_X0 hH 4 wC_g4 rfl 0 (by decide) kf_X0_9 rfl dX0_countOnes_13 ?_
    refine lv_iload hx hb dX0_countOnes_16 (lv_at hl 4 rfl) ?_
    obtain ⟨hi2, h⟩ := h
    refine x_iald E hH 5 0 wC_g5 rfl hi2 dX0_countOnes_18 ?_
    refine lv_iload_n hx hb dX0_countOnes_19 rfl (lv_at hl 1 rfl) ?_
    refine lv_iushr hx hb dX0_countOnes_20 rfl ?_
    refine lv_iconst (v := (1 : Int32)) hx hb dX0_countOnes_21 (by decide) ?_
    refine lv_iand hx hb dX0_countOnes_22 ?_
    refine lv_iadd hx hb dX0_countOnes_23 ?_
    refine lv_istore_n (lv' := [(3, .int (x3 + (((((cr C 5) (Int32.toNatClampNeg x4))).toUInt32 >>> ((x1).toUInt32 &&& Int32.toUInt32 31)).toInt32 &&& (1 : Int32)))), (0, .ref (a 4)), (1, .int x1), (2, .int x2), (4, .int x4)]) hx hb dX0_countOnes_24 rfl hl (by decide) rfl (fun ls hl => ?_)
    refine lv_iinc (v := (x4 + 1)) (lv' := [(4, .int (x4 + 1)), (3, .int (x3 + (((((cr C 5) (Int32.toNatClampNeg x4))).toUInt32 >>> ((x1).toUInt32 &&& Int32.toUInt32 31)).toInt32 &&& (1 : Int32)))), (0, .ref (a 4)), (1, .int x1), (2, .int x2)]) hx hb dX0_countOnes_25 hl (k := 4) rfl rfl (by decide) rfl (fun ls hl => ?_)
    refine lv_goto (tgt := 5) hx hb dX0_countOnes_28 (by decide) ?_
    exact hK5 _ _ _ _ _ _ _ _ hH (lv_sub hl [2, 3, 4, 1, 0] rfl) h
theorem k_X0_countOnes_5 {post : Int32 → CS → Prop} (E : Cx p s m args meth c cX0_countOnes 5 RX0 (some .int) D (tyW cI cS cO))  (n : Nat) : ∀ {C : CS} {x1 : Int32} {x2 : Int32} {x3 : Int32} {x4 : Int32} {H : Heap} {locs : List Loc} {ls : Array Slot} (hH : HX D (wC cI cO a ad C) A s.heap H locs) (hl : lv_has ls 5 [(0, .ref (a 4)), (1, .int x1), (2, .int x2), (3, .int x3), (4, .int x4)]) (h : w_X0_countOnes_5 post n C x1 x2 x3 x4), W p l e (rmA 0 0 0) s m args below meth c H locs 0 0 (MQ below ((QI D (wC cI cO a ad) post) A) args s 0 0 A) (F0 m 5 ls []) := by
  induction n with
  | zero => intros; contradiction
  | succ n ih => intro C x1 x2 x3 x4 H locs ls hH hl h; exact k_X0_countOnes_5b E  (fun C x1 x2 x3 x4 H locs ls hH hl h => ih hH hl h) hH hl h
set_option maxHeartbeats 4000000 in
set_option maxRecDepth 100000 in
theorem c_X0_countOnes {l : Launch} {D : va_G} {cI cS cO : ClassId} {a ad : Nat → Nat} {C : CS} {x1 : Int32} {x2 : Int32} {post : Int32 → CS → Prop} (h : w_X0_countOnes post C x1 x2) : MetX l D (tyW cI cS cO) yX0_countOnes cX0_countOnes 5 (some .int) 0 0 0 [.ref (a 4), .int x1, .int x2] (wC cI cO a ad C) (QI D (wC cI cO a ad) post) := by
  refine x_ent (by decide) (Nat.le_of_ble_eq_true rfl) ?_
  intro p e s m below meth c ls E _ hH hl
  have hx := E.1
  have hb := E.2.1
  generalize va_A (wC cI cO a ad C) s.heap.size = A at hH ⊢
  have hl : lv_has ls 5 [(0, .ref (a 4)), (1, .int x1), (2, .int x2)] := hl
  unfold w_X0_countOnes at h
  refine lv_iconst (v := (0 : Int32)) hx hb dX0_countOnes_0 (by decide) ?_
  refine lv_istore_n (lv' := [(3, .int (0 : Int32)), (0, .ref (a 4)), (1, .int x1), (2, .int x2)]) hx hb dX0_countOnes_1 rfl hl (by decide) rfl (fun ls hl => ?_)
  refine lv_iconst (v := (0 : Int32)) hx hb dX0_countOnes_2 (by decide) ?_
  refine lv_istore (lv' := [(4, .int (0 : Int32)), (3, .int (0 : Int32)), (0, .ref (a 4)), (1, .int x1), (2, .int x2)]) hx hb dX0_countOnes_3 hl (by decide) rfl (fun ls hl => ?_)
  obtain ⟨n, h⟩ := h
  exact k_X0_countOnes_5 E  n hH (lv_sub hl [2, 3, 4, 1, 0] rfl) h
set_option maxHeartbeats 4000000 in
set_option maxRecDepth 100000 in
theorem k_X0_splitBy_68b {post : CS → Prop} (E : Cx p s m args meth c cX0_splitBy 6 RX0 none D (tyW cI cS cO))  {K68 : CS → Int32 → Int32 → Int32 → Prop} (hK68 : ∀ (C : CS) (x2 : Int32) (x3 : Int32) (x4 : Int32) (H : Heap) (locs : List Loc) (ls : Array Slot), HX D (wC cI cO a ad C) A s.heap H locs → lv_has ls 6 [(0, .ref (a 4)), (2, .int x2), (3, .int x3), (4, .int x4)] → K68 C x2 x3 x4 → W p l e (rmA 0 0 0) s m args below meth c H locs 0 0 (MQ below ((QV D (wC cI cO a ad) post) A) args s 0 0 A) (F0 m 68 ls [])) {C : CS} {x2 : Int32} {x3 : Int32} {x4 : Int32} {H : Heap} {locs : List Loc} {ls : Array Slot} (hH : HX D (wC cI cO a ad C) A s.heap H locs) (hl : lv_has ls 6 [(0, .ref (a 4)), (2, .int x2), (3, .int x3), (4, .int x4)]) (h : w_X0_splitBy_68b post K68 C x2 x3 x4) : W p l e (rmA 0 0 0) s m args below meth c H locs 0 0 (MQ below ((QV D (wC cI cO a ad) post) A) args s 0 0 A) (F0 m 68 ls []) := by
  have hx := E.1
  have hb := E.2.1
  unfold w_X0_splitBy_68b at h
  refine lv_iload hx hb dX0_splitBy_68 (lv_at hl 3 rfl) ?_
  refine lv_iload_n hx hb dX0_splitBy_70 rfl (lv_at hl 2 rfl) ?_
  refine lv_icmp_ge (tgt := 96) hx hb dX0_splitBy_71 (by decide) (fun hc => ?_) (fun hc => ?_)
  · have h := h.1 hc
    exact x_vret E hH h dX0_splitBy_96
  · have h := h.2 hc
    refine lv_aload_n hx hb dX0_splitBy_74 rfl (lv_at hl 0 rfl) ?_
    refine x_get (ci := 0) (CN := RX0) (T := TX0) (N := 4) E in_X0 hH 4 wC_g4 rfl 0 (by decide) kf_X0_9 rfl dX0_splitBy_75 ?_
    refine lv_iload_n hx hb dX0_splitBy_78 rfl (lv_at hl 1 rfl) ?_
    refine lv_iload hx hb dX0_splitBy_79 (lv_at hl 3 rfl) ?_
    refine lv_iadd hx hb dX0_splitBy_81 ?_
    refine lv_aload_n hx hb dX0_splitBy_82 rfl (lv_at hl 0 rfl) ?_
    refine x_get (ci := 0) (CN := RX0) (T := TX0) (N := 4) E in_X0 hH 4 wC_g4 rfl 2 (by decide) kf_X0_18 rfl dX0_splitBy_83 ?_
    refine lv_iload hx hb dX0_splitBy_86 (lv_at hl 3 rfl) ?_
    obtain ⟨hi6, h⟩ := h
    refine x_iald E hH 7 0 wC_g7 rfl hi6 dX0_splitBy_88 ?_
    obtain ⟨hi7, h⟩ := h
    refine x_iast E hH 5 0 wC_g5 rfl hi7 wC_s5 dX0_splitBy_89 (fun H locs hH => ?_)
    refine lv_iinc (v := (x4 + 1)) (lv' := [(4, .int (x4 + 1)), (0, .ref (a 4)), (2, .int x2), (3, .int x3)]) hx hb dX0_splitBy_90 hl (k := 3) rfl rfl (by decide) rfl (fun ls hl => ?_)
    refine lv_goto (tgt := 68) hx hb dX0_splitBy_93 (by decide) ?_
    exact hK68 _ _ _ _ _ _ _ hH (lv_sub hl [1, 2, 3, 0] rfl) h
theorem k_X0_splitBy_68 {post : CS → Prop} (E : Cx p s m args meth c cX0_splitBy 6 RX0 none D (tyW cI cS cO))  (n : Nat) : ∀ {C : CS} {x2 : Int32} {x3 : Int32} {x4 : Int32} {H : Heap} {locs : List Loc} {ls : Array Slot} (hH : HX D (wC cI cO a ad C) A s.heap H locs) (hl : lv_has ls 6 [(0, .ref (a 4)), (2, .int x2), (3, .int x3), (4, .int x4)]) (h : w_X0_splitBy_68 post n C x2 x3 x4), W p l e (rmA 0 0 0) s m args below meth c H locs 0 0 (MQ below ((QV D (wC cI cO a ad) post) A) args s 0 0 A) (F0 m 68 ls []) := by
  induction n with
  | zero => intros; contradiction
  | succ n ih => intro C x2 x3 x4 H locs ls hH hl h; exact k_X0_splitBy_68b E  (fun C x2 x3 x4 H locs ls hH hl h => ih hH hl h) hH hl h
set_option maxHeartbeats 4000000 in
set_option maxRecDepth 100000 in
theorem k_X0_splitBy_59 {post : CS → Prop} (E : Cx p s m args meth c cX0_splitBy 6 RX0 none D (tyW cI cS cO)) {K7 : CS → Int32 → Int32 → Int32 → Int32 → Prop} (hK7 : ∀ (C : CS) (x1 : Int32) (x2 : Int32) (x3 : Int32) (x4 : Int32) (H : Heap) (locs : List Loc) (ls : Array Slot), HX D (wC cI cO a ad C) A s.heap H locs → lv_has ls 6 [(0, .ref (a 4)), (1, .int x1), (2, .int x2), (3, .int x3), (4, .int x4)] → K7 C x1 x2 x3 x4 → W p l e (rmA 0 0 0) s m args below meth c H locs 0 0 (MQ below ((QV D (wC cI cO a ad) post) A) args s 0 0 A) (F0 m 7 ls [])) {C : CS} {x1 : Int32} {x2 : Int32} {x3 : Int32} {x4 : Int32} {H : Heap} {locs : List Loc} {ls : Array Slot} (hH : HX D (wC cI cO a ad C) A s.heap H locs) (hl : lv_has ls 6 [(0, .ref (a 4)), (1, .int x1), (2, .int x2), (3, .int x3), (4, .int x4)]) (h : w_X0_splitBy_59 post K7 C x1 x2 x3 x4) : W p l e (rmA 0 0 0) s m args below meth c H locs 0 0 (MQ below ((QV D (wC cI cO a ad) post) A) args s 0 0 A) (F0 m 59 ls []) := by
  have hx := E.1
  have hb := E.2.1
  unfold w_X0_splitBy_59 at h
  refine lv_iinc (v := (x4 + 1)) (lv' := [(4, .int (x4 + 1)), (0, .ref (a 4)), (1, .int x1), (2, .int x2), (3, .int x3)]) hx hb dX0_splitBy_59 hl (k := 4) rfl rfl (by decide) rfl (fun ls hl => ?_)
  refine lv_goto (tgt := 7) hx hb dX0_splitBy_62 (by decide) ?_
  exact hK7 _ _ _ _ _ _ _ _ hH (lv_sub hl [1, 2, 3, 4, 0] rfl) h
set_option maxHeartbeats 4000000 in
set_option maxRecDepth 100000 in
theorem k_X0_splitBy_7b {post : CS → Prop} (E : Cx p s m args meth c cX0_splitBy 6 RX0 none D (tyW cI cS cO))  {K7 : CS → Int32 → Int32 → Int32 → Int32 → Prop} (hK7 : ∀ (C : CS) (x1 : Int32) (x2 : Int32) (x3 : Int32) (x4 : Int32) (H : Heap) (locs : List Loc) (ls : Array Slot), HX D (wC cI cO a ad C) A s.heap H locs → lv_has ls 6 [(0, .ref (a 4)), (1, .int x1), (2, .int x2), (3, .int x3), (4, .int x4)] → K7 C x1 x2 x3 x4 → W p l e (rmA 0 0 0) s m args below meth c H locs 0 0 (MQ below ((QV D (wC cI cO a ad) post) A) args s 0 0 A) (F0 m 7 ls [])) {C : CS} {x1 : Int32} {x2 : Int32} {x3 : Int32} {x4 : Int32} {H : Heap} {locs : List Loc} {ls : Array Slot} (hH : HX D (wC cI cO a ad C) A s.heap H locs) (hl : lv_has ls 6 [(0, .ref (a 4)), (1, .int x1), (2, .int x2), (3, .int x3), (4, .int x4)]) (h : w_X0_splitBy_7b post K7 C x1 x2 x3 x4) : W p l e (rmA 0 0 0) s m args below meth c H locs 0 0 (MQ below ((QV D (wC cI cO a ad) post) A) args s 0 0 A) (F0 m 7 ls []) := by
  have hx := E.1
  have hb := E.2.1
  unfold w_X0_splitBy_7b at h
  refine lv_iload hx hb dX0_splitBy_7 (lv_at hl 4 rfl) ?_
  refine lv_aload_n hx hb dX0_splitBy_9 rfl (lv_at hl 0 rfl) ?_
  refine x_get (ci := 0) (CN := RX0) (T := TX0) (N := 4) E in_X0 hH 4 wC_g4 rfl 3 (by decide) kf_X0_27 rfl dX0_splitBy_10 ?_
  refine lv_icmp_ge (tgt := 65) hx hb dX0_splitBy_13 (by decide) (fun hc => ?_) (fun hc => ?_)
  · have h := h.1 hc
    refine lv_iconst (v := (0 : Int32)) hx hb dX0_splitBy_65 (by decide) ?_
    refine lv_istore (lv' := [(4, .int (0 : Int32)), (0, .ref (a 4)), (1, .int x1), (2, .int x2), (3, .int x3)]) hx hb dX0_splitBy_66 hl (by decide) rfl (fun ls hl => ?_)
    obtain ⟨n, h⟩ := h
    exact k_X0_splitBy_68 E  n hH (lv_sub hl [1, 3, 4, 0] rfl) h
  · have h := h.2 hc
    refine lv_aload_n hx hb dX0_splitBy_16 rfl (lv_at hl 0 rfl) ?_
    refine x_get (ci := 0) (CN := RX0) (T := TX0) (N := 4) E in_X0 hH 4 wC_g4 rfl 0 (by decide) kf_X0_9 rfl dX0_splitBy_17 ?_
    refine lv_iload hx hb dX0_splitBy_20 (lv_at hl 4 rfl) ?_
    obtain ⟨hi3, h⟩ := h
    refine x_iald E hH 5 0 wC_g5 rfl hi3 dX0_splitBy_22 ?_
    refine lv_istore (lv' := [(5, .int ((cr C 5) (Int32.toNatClampNeg x4))), (0, .ref (a 4)), (1, .int x1), (2, .int x2), (3, .int x3), (4, .int x4)]) hx hb dX0_splitBy_23 hl (by decide) rfl (fun ls hl => ?_)
    refine lv_iload hx hb dX0_splitBy_25 (lv_at hl 0 rfl) ?_
    refine lv_iload_n hx hb dX0_splitBy_27 rfl (lv_at hl 2 rfl) ?_
    refine lv_iushr hx hb dX0_splitBy_28 rfl ?_
    refine lv_iconst (v := (1 : Int32)) hx hb dX0_splitBy_29 (by decide) ?_
    refine lv_iand hx hb dX0_splitBy_30 ?_
    refine lv_if_ne (tgt := 48) hx hb dX0_splitBy_31 (by decide) (fun hc => ?_) (fun hc => ?_)
    · have h := h.1 hc
      refine lv_aload_n hx hb dX0_splitBy_48 rfl (lv_at hl 1 rfl) ?_
      refine x_get (ci := 0) (CN := RX0) (T := TX0) (N := 4) E in_X0 hH 4 wC_g4 rfl 2 (by decide) kf_X0_18 rfl dX0_splitBy_49 ?_
      refine lv_iload_n hx hb dX0_splitBy_52 rfl (lv_at hl 4 rfl) ?_
      refine lv_iload hx hb dX0_splitBy_53 (lv_at hl 0 rfl) ?_
      obtain ⟨hi4, h⟩ := h
      refine x_iast E hH 7 0 wC_g7 rfl hi4 wC_s7 dX0_splitBy_55 (fun H locs hH => ?_)
      refine lv_iinc (v := (x3 + 1)) (lv' := [(3, .int (x3 + 1)), (5, .int ((cr C 5) (Int32.toNatClampNeg x4))), (0, .ref (a 4)), (1, .int x1), (2, .int x2), (4, .int x4)]) hx hb dX0_splitBy_56 hl (k := 4) rfl rfl (by decide) rfl (fun ls hl => ?_)
      exact k_X0_splitBy_59 E hK7 hH (lv_sub hl [2, 3, 4, 0, 5] rfl) h
    · have h := h.2 hc
      refine lv_aload_n hx hb dX0_splitBy_34 rfl (lv_at hl 1 rfl) ?_
      refine x_get (ci := 0) (CN := RX0) (T := TX0) (N := 4) E in_X0 hH 4 wC_g4 rfl 0 (by decide) kf_X0_9 rfl dX0_splitBy_35 ?_
      refine lv_iload_n hx hb dX0_splitBy_38 rfl (lv_at hl 3 rfl) ?_
      refine lv_iload hx hb dX0_splitBy_39 (lv_at hl 0 rfl) ?_
      obtain ⟨hi5, h⟩ := h
      refine x_iast E hH 5 0 wC_g5 rfl hi5 wC_s5 dX0_splitBy_41 (fun H locs hH => ?_)
      refine lv_iinc (v := (x2 + 1)) (lv' := [(2, .int (x2 + 1)), (5, .int ((cr C 5) (Int32.toNatClampNeg x4))), (0, .ref (a 4)), (1, .int x1), (3, .int x3), (4, .int x4)]) hx hb dX0_splitBy_42 hl (k := 3) rfl rfl (by decide) rfl (fun ls hl => ?_)
      refine lv_goto (tgt := 59) hx hb dX0_splitBy_45 (by decide) ?_
      exact k_X0_splitBy_59 E hK7 hH (lv_sub hl [2, 3, 0, 4, 5] rfl) h
theorem k_X0_splitBy_7 {post : CS → Prop} (E : Cx p s m args meth c cX0_splitBy 6 RX0 none D (tyW cI cS cO))  (n : Nat) : ∀ {C : CS} {x1 : Int32} {x2 : Int32} {x3 : Int32} {x4 : Int32} {H : Heap} {locs : List Loc} {ls : Array Slot} (hH : HX D (wC cI cO a ad C) A s.heap H locs) (hl : lv_has ls 6 [(0, .ref (a 4)), (1, .int x1), (2, .int x2), (3, .int x3), (4, .int x4)]) (h : w_X0_splitBy_7 post n C x1 x2 x3 x4), W p l e (rmA 0 0 0) s m args below meth c H locs 0 0 (MQ below ((QV D (wC cI cO a ad) post) A) args s 0 0 A) (F0 m 7 ls []) := by
  induction n with
  | zero => intros; contradiction
  | succ n ih => intro C x1 x2 x3 x4 H locs ls hH hl h; exact k_X0_splitBy_7b E  (fun C x1 x2 x3 x4 H locs ls hH hl h => ih hH hl h) hH hl h
set_option maxHeartbeats 4000000 in
set_option maxRecDepth 100000 in
theorem c_X0_splitBy {l : Launch} {D : va_G} {cI cS cO : ClassId} {a ad : Nat → Nat} {C : CS} {x1 : Int32} {post : CS → Prop} (h : w_X0_splitBy post C x1) : MetX l D (tyW cI cS cO) yX0_splitBy cX0_splitBy 6 none 0 0 0 [.ref (a 4), .int x1] (wC cI cO a ad C) (QV D (wC cI cO a ad) post) := by
  refine x_ent (by decide) (Nat.le_of_ble_eq_true rfl) ?_
  intro p e s m below meth c ls E _ hH hl
  have hx := E.1
  have hb := E.2.1
  generalize va_A (wC cI cO a ad C) s.heap.size = A at hH ⊢
  have hl : lv_has ls 6 [(0, .ref (a 4)), (1, .int x1)] := hl
  unfold w_X0_splitBy at h
  refine lv_iconst (v := (0 : Int32)) hx hb dX0_splitBy_0 (by decide) ?_
  refine lv_istore_n (lv' := [(2, .int (0 : Int32)), (0, .ref (a 4)), (1, .int x1)]) hx hb dX0_splitBy_1 rfl hl (by decide) rfl (fun ls hl => ?_)
  refine lv_iconst (v := (0 : Int32)) hx hb dX0_splitBy_2 (by decide) ?_
  refine lv_istore_n (lv' := [(3, .int (0 : Int32)), (2, .int (0 : Int32)), (0, .ref (a 4)), (1, .int x1)]) hx hb dX0_splitBy_3 rfl hl (by decide) rfl (fun ls hl => ?_)
  refine lv_iconst (v := (0 : Int32)) hx hb dX0_splitBy_4 (by decide) ?_
  refine lv_istore (lv' := [(4, .int (0 : Int32)), (3, .int (0 : Int32)), (2, .int (0 : Int32)), (0, .ref (a 4)), (1, .int x1)]) hx hb dX0_splitBy_5 hl (by decide) rfl (fun ls hl => ?_)
  obtain ⟨n, h⟩ := h
  exact k_X0_splitBy_7 E  n hH (lv_sub hl [3, 4, 2, 1, 0] rfl) h
end WALKS_C0
