section WALKS_D1
variable {p : Program} {l : Launch} {e : Env} {s : State} {m : MethodId} {args : Array Value} {below : List Frame} {meth : Method} {c : Code} {D : va_G} {cI cS cO : ClassId} {a ad : Nat → Nat} {A : Nat → Prop}
set_option maxHeartbeats 4000000 in
set_option maxRecDepth 100000 in
theorem c_X3_versions {l : Launch} {D : va_G} {cI cS cO : ClassId} {a ad : Nat → Nat} {C : CS} {x1 : Int32} {post : Int32 → CS → Prop} (h : w_X3_versions post C x1) : MetX l D (tyW cI cS cO) yX3_versions cX3_versions 2 (some .int) 0 0 0 [.ref (a 0), .int x1] (wC cI cO a ad C) (QI D (wC cI cO a ad) post) := by
  refine x_ent (by decide) (Nat.le_of_ble_eq_true rfl) ?_
  intro p e s m below meth c ls E _ hH hl
  have hx := E.1
  have hb := E.2.1
  generalize va_A (wC cI cO a ad C) s.heap.size = A at hH ⊢
  have hl : lv_has ls 2 [(0, .ref (a 0)), (1, .int x1)] := hl
  unfold w_X3_versions at h
  refine lv_iload_n hx hb dX3_versions_0 rfl (lv_at hl 1 rfl) ?_
  refine lv_if_eq (tgt := 11) hx hb dX3_versions_1 (by decide) (fun hc => ?_) (fun hc => ?_)
  · have h := h.1 hc
    refine lv_aload_n hx hb dX3_versions_11 rfl (lv_at hl 0 rfl) ?_
    refine x_get (ci := 3) (CN := RX3) (T := TX3) (N := 11) E in_X3 hH 0 wC_g0 rfl 1 (by decide) kf_X3_48 rfl dX3_versions_12 ?_
    exact x_iret E hH h dX3_versions_15
  · have h := h.2 hc
    refine lv_aload_n hx hb dX3_versions_4 rfl (lv_at hl 0 rfl) ?_
    refine x_get (ci := 3) (CN := RX3) (T := TX3) (N := 11) E in_X3 hH 0 wC_g0 rfl 2 (by decide) kf_X3_118 rfl dX3_versions_5 ?_
    refine lv_goto (tgt := 15) hx hb dX3_versions_8 (by decide) ?_
    exact x_iret E hH h dX3_versions_15
set_option maxHeartbeats 4000000 in
set_option maxRecDepth 100000 in
theorem k_X3_seal_80 {post : Int32 → CS → Prop} (E : Cx p s m args meth c cX3_seal 6 RX3 (some .int) D (tyW cI cS cO))  {C : CS} {x2 : Int32} {x3 : Int32} {o5 : Option Nat} {H : Heap} {locs : List Loc} {ls : Array Slot} (hH : HX D (wC cI cO a ad C) A s.heap H locs) (hl : lv_has ls 6 [(0, .ref (a 0)), (2, .int x2), (3, .int x3), (5, rv ad o5)]) (h : w_X3_seal_80 post C x2 x3 o5) : W p l e (rmA 2 0 0) s m args below meth c H locs 0 0 (MQ below ((QI D (wC cI cO a ad) post) A) args s 0 0 A) (F0 m 80 ls []) := by
  have hx := E.1
  have hb := E.2.1
  unfold w_X3_seal_80 at h
  refine lv_aload_n hx hb dX3_seal_80 rfl (lv_at hl 0 rfl) ?_
  refine x_get (ci := 3) (CN := RX3) (T := TX3) (N := 11) E in_X3 hH 0 wC_g0 rfl 3 (by decide) kf_X3_15 rfl dX3_seal_81 ?_
  refine lv_iload_n hx hb dX3_seal_84 rfl (lv_at hl 1 rfl) ?_
  refine q_aload hx hb dX3_seal_85 (lv_at hl 3 rfl) ?_
  obtain ⟨v20, rfl, hv21, h⟩ := h
  obtain ⟨hi22, h⟩ := h
  refine x_aast E hH 2 2 (17 + 3 * v20) wC_g2 rfl (wC_v0 hv21) hi22 wC_o2 dX3_seal_87 (fun H locs hH => ?_)
  refine lv_aload_n hx hb dX3_seal_88 rfl (lv_at hl 0 rfl) ?_
  refine x_get (ci := 3) (CN := RX3) (T := TX3) (N := 11) E in_X3 hH 0 wC_g0 rfl 4 (by decide) kf_X3_18 rfl dX3_seal_89 ?_
  refine lv_iload_n hx hb dX3_seal_92 rfl (lv_at hl 1 rfl) ?_
  refine lv_iload_n hx hb dX3_seal_93 rfl (lv_at hl 2 rfl) ?_
  refine lv_if_eq (tgt := 101) hx hb dX3_seal_94 (by decide) (fun hc => ?_) (fun hc => ?_)
  · have h := h.1 hc
    refine lv_iconst (v := (1 : Int32)) hx hb dX3_seal_101 (by decide) ?_
    refine x_iast E hH 3 0 wC_g3 rfl hi22 wC_s3 dX3_seal_102 (fun H locs hH => ?_)
    refine lv_aload hx hb dX3_seal_103 (lv_at hl 3 rfl) ?_
    refine x_getN (ci := 2) (CN := RX2) (T := TX2) (N := 9) E in_X2 hH (17 + 3 * v20) (wC_v0 hv21) rfl 3 (by decide) kfn_X3_66 rfl dX3_seal_105 ?_
    exact x_iret E hH h dX3_seal_108
  · have h := h.2 hc
    refine lv_iconst (v := (2 : Int32)) hx hb dX3_seal_97 (by decide) ?_
    refine lv_goto (tgt := 102) hx hb dX3_seal_98 (by decide) ?_
    refine x_iast E hH 3 0 wC_g3 rfl hi22 wC_s3 dX3_seal_102 (fun H locs hH => ?_)
    refine lv_aload hx hb dX3_seal_103 (lv_at hl 3 rfl) ?_
    refine x_getN (ci := 2) (CN := RX2) (T := TX2) (N := 9) E in_X2 hH (17 + 3 * v20) (wC_v0 hv21) rfl 3 (by decide) kfn_X3_66 rfl dX3_seal_105 ?_
    exact x_iret E hH h dX3_seal_108
set_option maxHeartbeats 4000000 in
set_option maxRecDepth 100000 in
theorem c_X3_seal {l : Launch} {D : va_G} {cI cS cO : ClassId} {a ad : Nat → Nat} {C : CS} {x1 : Int32} {x2 : Int32} {x3 : Int32} {post : Int32 → CS → Prop} (h : w_X3_seal post C x1 x2 x3) : MetX l D (tyW cI cS cO) yX3_seal cX3_seal 6 (some .int) 2 0 0 [.ref (a 0), .int x1, .int x2, .int x3] (wC cI cO a ad C) (QI D (wC cI cO a ad) post) := by
  refine x_ent (by decide) (Nat.le_of_ble_eq_true rfl) ?_
  intro p e s m below meth c ls E _ hH hl
  have hx := E.1
  have hb := E.2.1
  generalize va_A (wC cI cO a ad C) s.heap.size = A at hH ⊢
  have hl : lv_has ls 6 [(0, .ref (a 0)), (1, .int x1), (2, .int x2), (3, .int x3)] := hl
  unfold w_X3_seal at h
  refine lv_aload_n hx hb dX3_seal_0 rfl (lv_at hl 0 rfl) ?_
  refine lv_iload_n hx hb dX3_seal_1 rfl (lv_at hl 1 rfl) ?_
  refine x_ci (x_runV (As := [.int x1]) (rest := []) E (c_X3_findingOfPlace h) yk_X3_findingOfPlace yi_X3_findingOfPlace km_X3_121 ⟨Nat.le_of_ble_eq_true rfl, Nat.le_of_ble_eq_true rfl⟩ ⟨Nat.le_of_ble_eq_true rfl, Nat.le_of_ble_eq_true rfl⟩ hH (va_recv E.2.2.2.2.2.1 hH.1 (ci := 3) (q0 := 0) rfl wC_g0) hl.1 rfl rfl (lv_room (Nat.le_of_ble_eq_true rfl)) dX3_seal_2) hH (fun r2 C1 H locs h hH => ?_)
  refine lv_istore (lv' := [(4, .int r2), (0, .ref (a 0)), (1, .int x1), (2, .int x2), (3, .int x3)]) hx hb dX3_seal_5 hl (by decide) rfl (fun ls hl => ?_)
  refine lv_iload hx hb dX3_seal_7 (lv_at hl 0 rfl) ?_
  refine lv_if_eq (tgt := 19) hx hb dX3_seal_9 (by decide) (fun hc => ?_) (fun hc => ?_)
  · have h := h.1 hc
    refine lv_iload_n hx hb dX3_seal_19 rfl (lv_at hl 3 rfl) ?_
    refine x_ci (x_runS (As := [.int x2]) (rest := []) E (c_X3_isShelfPlace h) yk_X3_isShelfPlace yi_X3_isShelfPlace km_X3_63 ⟨Nat.le_of_ble_eq_true rfl, Nat.le_of_ble_eq_true rfl⟩ ⟨Nat.le_of_ble_eq_true rfl, Nat.le_of_ble_eq_true rfl⟩ hH  hl.1 rfl rfl (lv_room (Nat.le_of_ble_eq_true rfl)) dX3_seal_20) hH (fun r4 C3 H locs h hH => ?_)
    refine lv_if_ne (tgt := 32) hx hb dX3_seal_23 (by decide) (fun hc => ?_) (fun hc => ?_)
    · have h := h.1 hc
      refine lv_aload_n hx hb dX3_seal_32 rfl (lv_at hl 1 rfl) ?_
      refine x_get (ci := 3) (CN := RX3) (T := TX3) (N := 11) E in_X3 hH 0 wC_g0 rfl 3 (by decide) kf_X3_15 rfl dX3_seal_33 ?_
      refine lv_iload_n hx hb dX3_seal_36 rfl (lv_at hl 2 rfl) ?_
      obtain ⟨hi6, h⟩ := h
      refine x_aald E hH 2 2 wC_g2 rfl hi6 dX3_seal_37 ?_
      refine q_top (ad := ad) (x := co C3 2 (Int32.toNatClampNeg x1)) (fun w5 ew5 => ?_)
      have h := h w5 ew5
      refine q_astore (i := 5) (lv' := [(4, .int r2), (0, .ref (a 0)), (1, .int x1), (2, .int x2), (3, .int x3)]) hx hb dX3_seal_38 hl (by decide) (fun _ => rfl) (fun ls hl => ?_)
      refine lv_iload_n hx hb dX3_seal_40 rfl (lv_at hl 5 rfl) ?_
      refine lv_if_eq (tgt := 80) hx hb dX3_seal_41 (by decide) (fun hc => ?_) (fun hc => ?_)
      · have h := h.1 hc
        exact k_X3_seal_80 E  hH (lv_sub hl [2, 4, 5, 0] rfl) h
      · have h := h.2 hc
        refine lv_aload_n hx hb dX3_seal_44 rfl (lv_at hl 2 rfl) ?_
        refine x_get (ci := 3) (CN := RX3) (T := TX3) (N := 11) E in_X3 hH 0 wC_g0 rfl 5 (by decide) kf_X3_25 rfl dX3_seal_45 ?_
        refine q_aload hx hb dX3_seal_48 (lv_at hl 0 rfl) ?_
        obtain ⟨v7, rfl, hv8, h⟩ := h
        refine x_cv (x_runVN (As := [.ref (ad (3 * v7))]) (rest := []) E (c_X0_layOut4 h) yk_X0_layOut yi_X0_layOut kmn_X3_88 ⟨Nat.le_of_ble_eq_true rfl, Nat.le_of_ble_eq_true rfl⟩ ⟨Nat.le_of_ble_eq_true rfl, Nat.le_of_ble_eq_true rfl⟩ hH (va_recv E.2.2.2.2.2.1 hH.1 (ci := 0) (q0 := 4) rfl wC_g4) hl.1 rfl rfl (lv_room (Nat.le_of_ble_eq_true rfl)) dX3_seal_50) hH (fun C9 H locs h hH => ?_)
        refine lv_aload_n hx hb dX3_seal_53 rfl (lv_at hl 2 rfl) ?_
        refine x_get (ci := 3) (CN := RX3) (T := TX3) (N := 11) E in_X3 hH 0 wC_g0 rfl 5 (by decide) kf_X3_25 rfl dX3_seal_54 ?_
        refine lv_iconst (v := (0 : Int32)) hx hb dX3_seal_57 (by decide) ?_
        refine lv_aload hx hb dX3_seal_58 (lv_at hl 0 rfl) ?_
        obtain ⟨hv11, h⟩ := h
        refine x_getN (ci := 2) (CN := RX2) (T := TX2) (N := 9) E in_X2 hH (17 + 3 * v7) (wC_v0 hv11) rfl 3 (by decide) kfn_X3_66 rfl dX3_seal_60 ?_
        refine lv_sipush (v := (256 : Int32)) hx hb dX3_seal_63 (by decide) ?_
        refine x_ci (x_runVN (As := [.int (0 : Int32), .int (cf C9 v7 3), .int (256 : Int32)]) (rest := []) E (c_X0_leastFrom h) yk_X0_leastFrom yi_X0_leastFrom kmn_X3_124 ⟨Nat.le_of_ble_eq_true rfl, Nat.le_of_ble_eq_true rfl⟩ ⟨Nat.le_of_ble_eq_true rfl, Nat.le_of_ble_eq_true rfl⟩ hH (va_recv E.2.2.2.2.2.1 hH.1 (ci := 0) (q0 := 4) rfl wC_g4) hl.1 rfl rfl (lv_room (Nat.le_of_ble_eq_true rfl)) dX3_seal_66) hH (fun r13 C12 H locs h hH => ?_)
        refine lv_bipush (v := (-6 : Int32)) hx hb dX3_seal_69 (by decide) ?_
        refine lv_icmp_eq (tgt := 80) hx hb dX3_seal_71 (by decide) (fun hc => ?_) (fun hc => ?_)
        · have h := h.1 hc
          exact k_X3_seal_80 E  hH (lv_sub hl [2, 4, 5, 0] rfl) h
        · have h := h.2 hc
          refine lv_aload_n hx hb dX3_seal_74 rfl (lv_at hl 2 rfl) ?_
          refine lv_iconst (v := (-1 : Int32)) hx hb dX3_seal_75 (by decide) ?_
          refine x_ci (x_runV (As := [.int (-1 : Int32)]) (rest := []) E (c_X3_told h) yk_X3_told yi_X3_told km_X3_56 ⟨Nat.le_of_ble_eq_true rfl, Nat.le_of_ble_eq_true rfl⟩ ⟨Nat.le_of_ble_eq_true rfl, Nat.le_of_ble_eq_true rfl⟩ hH (va_recv E.2.2.2.2.2.1 hH.1 (ci := 3) (q0 := 0) rfl wC_g0) hl.1 rfl rfl (lv_room (Nat.le_of_ble_eq_true rfl)) dX3_seal_76) hH (fun r15 C14 H locs h hH => ?_)
          exact x_iret E hH h dX3_seal_79
    · have h := h.2 hc
      refine lv_aload_n hx hb dX3_seal_26 rfl (lv_at hl 1 rfl) ?_
      refine lv_iconst (v := (-1 : Int32)) hx hb dX3_seal_27 (by decide) ?_
      refine x_ci (x_runV (As := [.int (-1 : Int32)]) (rest := []) E (c_X3_told h) yk_X3_told yi_X3_told km_X3_56 ⟨Nat.le_of_ble_eq_true rfl, Nat.le_of_ble_eq_true rfl⟩ ⟨Nat.le_of_ble_eq_true rfl, Nat.le_of_ble_eq_true rfl⟩ hH (va_recv E.2.2.2.2.2.1 hH.1 (ci := 3) (q0 := 0) rfl wC_g0) hl.1 rfl rfl (lv_room (Nat.le_of_ble_eq_true rfl)) dX3_seal_28) hH (fun r17 C16 H locs h hH => ?_)
      exact x_iret E hH h dX3_seal_31
  · have h := h.2 hc
    refine lv_aload_n hx hb dX3_seal_12 rfl (lv_at hl 1 rfl) ?_
    refine lv_iload hx hb dX3_seal_13 (lv_at hl 0 rfl) ?_
    refine x_ci (x_runV (As := [.int r2]) (rest := []) E (c_X3_told h) yk_X3_told yi_X3_told km_X3_56 ⟨Nat.le_of_ble_eq_true rfl, Nat.le_of_ble_eq_true rfl⟩ ⟨Nat.le_of_ble_eq_true rfl, Nat.le_of_ble_eq_true rfl⟩ hH (va_recv E.2.2.2.2.2.1 hH.1 (ci := 3) (q0 := 0) rfl wC_g0) hl.1 rfl rfl (lv_room (Nat.le_of_ble_eq_true rfl)) dX3_seal_15) hH (fun r19 C18 H locs h hH => ?_)
    exact x_iret E hH h dX3_seal_18
set_option maxHeartbeats 4000000 in
set_option maxRecDepth 100000 in
theorem c_X3_put {l : Launch} {D : va_G} {cI cS cO : ClassId} {a ad : Nat → Nat} {C : CS} {x1 : Int32} {x2 : Int32} {post : Int32 → CS → Prop} (h : w_X3_put post C x1 x2) : MetX l D (tyW cI cS cO) yX3_put cX3_put 4 (some .int) 2 0 0 [.ref (a 0), .int x1, .int x2] (wC cI cO a ad C) (QI D (wC cI cO a ad) post) := by
  refine x_ent (by decide) (Nat.le_of_ble_eq_true rfl) ?_
  intro p e s m below meth c ls E _ hH hl
  have hx := E.1
  have hb := E.2.1
  generalize va_A (wC cI cO a ad C) s.heap.size = A at hH ⊢
  have hl : lv_has ls 4 [(0, .ref (a 0)), (1, .int x1), (2, .int x2)] := hl
  unfold w_X3_put at h
  refine lv_aload_n hx hb dX3_put_0 rfl (lv_at hl 0 rfl) ?_
  refine lv_iload_n hx hb dX3_put_1 rfl (lv_at hl 1 rfl) ?_
  refine x_ci (x_runV (As := [.int x1]) (rest := []) E (c_X3_findingOfPlace h) yk_X3_findingOfPlace yi_X3_findingOfPlace km_X3_121 ⟨Nat.le_of_ble_eq_true rfl, Nat.le_of_ble_eq_true rfl⟩ ⟨Nat.le_of_ble_eq_true rfl, Nat.le_of_ble_eq_true rfl⟩ hH (va_recv E.2.2.2.2.2.1 hH.1 (ci := 3) (q0 := 0) rfl wC_g0) hl.1 rfl rfl (lv_room (Nat.le_of_ble_eq_true rfl)) dX3_put_2) hH (fun r2 C1 H locs h hH => ?_)
  refine lv_istore_n (lv' := [(3, .int r2), (0, .ref (a 0)), (1, .int x1), (2, .int x2)]) hx hb dX3_put_5 rfl hl (by decide) rfl (fun ls hl => ?_)
  refine lv_iload_n hx hb dX3_put_6 rfl (lv_at hl 0 rfl) ?_
  refine lv_if_eq (tgt := 16) hx hb dX3_put_7 (by decide) (fun hc => ?_) (fun hc => ?_)
  · have h := h.1 hc
    refine lv_iload_n hx hb dX3_put_16 rfl (lv_at hl 3 rfl) ?_
    refine x_ci (x_runS (As := [.int x2]) (rest := []) E (c_X3_isShelfPlace h) yk_X3_isShelfPlace yi_X3_isShelfPlace km_X3_63 ⟨Nat.le_of_ble_eq_true rfl, Nat.le_of_ble_eq_true rfl⟩ ⟨Nat.le_of_ble_eq_true rfl, Nat.le_of_ble_eq_true rfl⟩ hH  hl.1 rfl rfl (lv_room (Nat.le_of_ble_eq_true rfl)) dX3_put_17) hH (fun r4 C3 H locs h hH => ?_)
    refine lv_if_ne (tgt := 29) hx hb dX3_put_20 (by decide) (fun hc => ?_) (fun hc => ?_)
    · have h := h.1 hc
      refine lv_aload_n hx hb dX3_put_29 rfl (lv_at hl 1 rfl) ?_
      refine x_get (ci := 3) (CN := RX3) (T := TX3) (N := 11) E in_X3 hH 0 wC_g0 rfl 3 (by decide) kf_X3_15 rfl dX3_put_30 ?_
      refine lv_iload_n hx hb dX3_put_33 rfl (lv_at hl 3 rfl) ?_
      refine lv_aload_n hx hb dX3_put_34 rfl (lv_at hl 1 rfl) ?_
      refine x_get (ci := 3) (CN := RX3) (T := TX3) (N := 11) E in_X3 hH 0 wC_g0 rfl 3 (by decide) kf_X3_15 rfl dX3_put_35 ?_
      refine lv_iload_n hx hb dX3_put_38 rfl (lv_at hl 2 rfl) ?_
      obtain ⟨hi6, h⟩ := h
      refine x_aald E hH 2 2 wC_g2 rfl hi6 dX3_put_39 ?_
      refine q_top (ad := ad) (x := co C3 2 (Int32.toNatClampNeg x1)) (fun w5 ew5 => ?_)
      have h := h w5 ew5
      obtain ⟨v7, rfl, hv8, h⟩ := h
      obtain ⟨hi9, h⟩ := h
      refine x_aast E hH 2 2 (17 + 3 * v7) wC_g2 rfl (wC_v0 hv8) hi9 wC_o2 dX3_put_40 (fun H locs hH => ?_)
      refine lv_aload_n hx hb dX3_put_41 rfl (lv_at hl 1 rfl) ?_
      refine x_get (ci := 3) (CN := RX3) (T := TX3) (N := 11) E in_X3 hH 0 wC_g0 rfl 4 (by decide) kf_X3_18 rfl dX3_put_42 ?_
      refine lv_iload_n hx hb dX3_put_45 rfl (lv_at hl 3 rfl) ?_
      refine lv_aload_n hx hb dX3_put_46 rfl (lv_at hl 1 rfl) ?_
      refine x_get (ci := 3) (CN := RX3) (T := TX3) (N := 11) E in_X3 hH 0 wC_g0 rfl 4 (by decide) kf_X3_18 rfl dX3_put_47 ?_
      refine lv_iload_n hx hb dX3_put_50 rfl (lv_at hl 2 rfl) ?_
      refine x_iald E hH 3 0 wC_g3 rfl hi6 dX3_put_51 ?_
      refine x_iast E hH 3 0 wC_g3 rfl hi9 wC_s3 dX3_put_52 (fun H locs hH => ?_)
      refine lv_aload_n hx hb dX3_put_53 rfl (lv_at hl 1 rfl) ?_
      refine x_get (ci := 3) (CN := RX3) (T := TX3) (N := 11) E in_X3 hH 0 wC_g0 rfl 4 (by decide) kf_X3_18 rfl dX3_put_54 ?_
      refine lv_iload_n hx hb dX3_put_57 rfl (lv_at hl 3 rfl) ?_
      refine x_iald E hH 3 0 wC_g3 rfl hi9 dX3_put_58 ?_
      exact x_iret E hH h dX3_put_59
    · have h := h.2 hc
      refine lv_aload_n hx hb dX3_put_23 rfl (lv_at hl 1 rfl) ?_
      refine lv_iconst (v := (-1 : Int32)) hx hb dX3_put_24 (by decide) ?_
      refine x_ci (x_runV (As := [.int (-1 : Int32)]) (rest := []) E (c_X3_told h) yk_X3_told yi_X3_told km_X3_56 ⟨Nat.le_of_ble_eq_true rfl, Nat.le_of_ble_eq_true rfl⟩ ⟨Nat.le_of_ble_eq_true rfl, Nat.le_of_ble_eq_true rfl⟩ hH (va_recv E.2.2.2.2.2.1 hH.1 (ci := 3) (q0 := 0) rfl wC_g0) hl.1 rfl rfl (lv_room (Nat.le_of_ble_eq_true rfl)) dX3_put_25) hH (fun r11 C10 H locs h hH => ?_)
      exact x_iret E hH h dX3_put_28
  · have h := h.2 hc
    refine lv_aload_n hx hb dX3_put_10 rfl (lv_at hl 1 rfl) ?_
    refine lv_iload_n hx hb dX3_put_11 rfl (lv_at hl 0 rfl) ?_
    refine x_ci (x_runV (As := [.int r2]) (rest := []) E (c_X3_told h) yk_X3_told yi_X3_told km_X3_56 ⟨Nat.le_of_ble_eq_true rfl, Nat.le_of_ble_eq_true rfl⟩ ⟨Nat.le_of_ble_eq_true rfl, Nat.le_of_ble_eq_true rfl⟩ hH (va_recv E.2.2.2.2.2.1 hH.1 (ci := 3) (q0 := 0) rfl wC_g0) hl.1 rfl rfl (lv_room (Nat.le_of_ble_eq_true rfl)) dX3_put_12) hH (fun r13 C12 H locs h hH => ?_)
    exact x_iret E hH h dX3_put_15
set_option maxHeartbeats 4000000 in
set_option maxRecDepth 100000 in
theorem c_X3_take {l : Launch} {D : va_G} {cI cS cO : ClassId} {a ad : Nat → Nat} {C : CS} {x1 : Int32} {post : Int32 → CS → Prop} (h : w_X3_take post C x1) : MetX l D (tyW cI cS cO) yX3_take cX3_take 2 (some .int) 1 0 0 [.ref (a 0), .int x1] (wC cI cO a ad C) (QI D (wC cI cO a ad) post) := by
  refine x_ent (by decide) (Nat.le_of_ble_eq_true rfl) ?_
  intro p e s m below meth c ls E _ hH hl
  have hx := E.1
  have hb := E.2.1
  generalize va_A (wC cI cO a ad C) s.heap.size = A at hH ⊢
  have hl : lv_has ls 2 [(0, .ref (a 0)), (1, .int x1)] := hl
  unfold w_X3_take at h
  refine lv_iload_n hx hb dX3_take_0 rfl (lv_at hl 1 rfl) ?_
  refine x_ci (x_runS (As := [.int x1]) (rest := []) E (c_X3_isShelfPlace h) yk_X3_isShelfPlace yi_X3_isShelfPlace km_X3_63 ⟨Nat.le_of_ble_eq_true rfl, Nat.le_of_ble_eq_true rfl⟩ ⟨Nat.le_of_ble_eq_true rfl, Nat.le_of_ble_eq_true rfl⟩ hH  hl.1 rfl rfl (lv_room (Nat.le_of_ble_eq_true rfl)) dX3_take_1) hH (fun r2 C1 H locs h hH => ?_)
  refine lv_if_ne (tgt := 13) hx hb dX3_take_4 (by decide) (fun hc => ?_) (fun hc => ?_)
  · have h := h.1 hc
    refine lv_aload_n hx hb dX3_take_13 rfl (lv_at hl 0 rfl) ?_
    refine x_get (ci := 3) (CN := RX3) (T := TX3) (N := 11) E in_X3 hH 0 wC_g0 rfl 3 (by decide) kf_X3_15 rfl dX3_take_14 ?_
    refine lv_iload_n hx hb dX3_take_17 rfl (lv_at hl 1 rfl) ?_
    refine lv_null hx hb dX3_take_18 ?_
    obtain ⟨hi3, h⟩ := h
    refine x_aastN E hH 2 2 wC_g2 rfl hi3 wC_on2 dX3_take_19 (fun H locs hH => ?_)
    refine lv_iconst (v := (0 : Int32)) hx hb dX3_take_20 (by decide) ?_
    exact x_iret E hH h dX3_take_21
  · have h := h.2 hc
    refine lv_aload_n hx hb dX3_take_7 rfl (lv_at hl 0 rfl) ?_
    refine lv_iconst (v := (-1 : Int32)) hx hb dX3_take_8 (by decide) ?_
    refine x_ci (x_runV (As := [.int (-1 : Int32)]) (rest := []) E (c_X3_told h) yk_X3_told yi_X3_told km_X3_56 ⟨Nat.le_of_ble_eq_true rfl, Nat.le_of_ble_eq_true rfl⟩ ⟨Nat.le_of_ble_eq_true rfl, Nat.le_of_ble_eq_true rfl⟩ hH (va_recv E.2.2.2.2.2.1 hH.1 (ci := 3) (q0 := 0) rfl wC_g0) hl.1 rfl rfl (lv_room (Nat.le_of_ble_eq_true rfl)) dX3_take_9) hH (fun r5 C4 H locs h hH => ?_)
    exact x_iret E hH h dX3_take_12
set_option maxHeartbeats 4000000 in
set_option maxRecDepth 100000 in
theorem c_X3_row {l : Launch} {D : va_G} {cI cS cO : ClassId} {a ad : Nat → Nat} {C : CS} {x1 : Int32} {x2 : Int32} {post : Int32 → CS → Prop} (h : w_X3_row post C x1 x2) : MetX l D (tyW cI cS cO) yX3_row cX3_row 4 (some .int) 2 0 0 [.ref (a 0), .int x1, .int x2] (wC cI cO a ad C) (QI D (wC cI cO a ad) post) := by
  refine x_ent (by decide) (Nat.le_of_ble_eq_true rfl) ?_
  intro p e s m below meth c ls E _ hH hl
  have hx := E.1
  have hb := E.2.1
  generalize va_A (wC cI cO a ad C) s.heap.size = A at hH ⊢
  have hl : lv_has ls 4 [(0, .ref (a 0)), (1, .int x1), (2, .int x2)] := hl
  unfold w_X3_row at h
  refine lv_aload_n hx hb dX3_row_0 rfl (lv_at hl 0 rfl) ?_
  refine lv_iload_n hx hb dX3_row_1 rfl (lv_at hl 1 rfl) ?_
  refine x_ci (x_runV (As := [.int x1]) (rest := []) E (c_X3_findingOfPlace h) yk_X3_findingOfPlace yi_X3_findingOfPlace km_X3_121 ⟨Nat.le_of_ble_eq_true rfl, Nat.le_of_ble_eq_true rfl⟩ ⟨Nat.le_of_ble_eq_true rfl, Nat.le_of_ble_eq_true rfl⟩ hH (va_recv E.2.2.2.2.2.1 hH.1 (ci := 3) (q0 := 0) rfl wC_g0) hl.1 rfl rfl (lv_room (Nat.le_of_ble_eq_true rfl)) dX3_row_2) hH (fun r2 C1 H locs h hH => ?_)
  refine lv_istore_n (lv' := [(3, .int r2), (0, .ref (a 0)), (1, .int x1), (2, .int x2)]) hx hb dX3_row_5 rfl hl (by decide) rfl (fun ls hl => ?_)
  refine lv_iload_n hx hb dX3_row_6 rfl (lv_at hl 0 rfl) ?_
  refine lv_if_eq (tgt := 16) hx hb dX3_row_7 (by decide) (fun hc => ?_) (fun hc => ?_)
  · have h := h.1 hc
    refine lv_iload_n hx hb dX3_row_16 rfl (lv_at hl 3 rfl) ?_
    by_cases hs0 : x2 = 0
    · refine lv_tableIn (off := 27) (tgt := 44) hx hb dX3_row_17 (by rw [hs0]; decide) (by rw [hs0]; decide) (by rw [hs0]; rfl) (by decide) ?_
      have h := h.1 hs0
      refine lv_aload_n hx hb dX3_row_44 rfl (lv_at hl 1 rfl) ?_
      refine x_get (ci := 3) (CN := RX3) (T := TX3) (N := 11) E in_X3 hH 0 wC_g0 rfl 4 (by decide) kf_X3_18 rfl dX3_row_45 ?_
      refine lv_iload_n hx hb dX3_row_48 rfl (lv_at hl 2 rfl) ?_
      obtain ⟨hi3, h⟩ := h
      refine x_iald E hH 3 0 wC_g3 rfl hi3 dX3_row_49 ?_
      exact x_iret E hH h dX3_row_50
    · by_cases hs1 : x2 = 1
      · refine lv_tableIn (off := 34) (tgt := 51) hx hb dX3_row_17 (by rw [hs1]; decide) (by rw [hs1]; decide) (by rw [hs1]; rfl) (by decide) ?_
        have h := h.2.1 hs1
        refine lv_aload_n hx hb dX3_row_51 rfl (lv_at hl 1 rfl) ?_
        refine x_get (ci := 3) (CN := RX3) (T := TX3) (N := 11) E in_X3 hH 0 wC_g0 rfl 3 (by decide) kf_X3_15 rfl dX3_row_52 ?_
        refine lv_iload_n hx hb dX3_row_55 rfl (lv_at hl 2 rfl) ?_
        obtain ⟨hi5, h⟩ := h
        refine x_aald E hH 2 2 wC_g2 rfl hi5 dX3_row_56 ?_
        refine q_top (ad := ad) (x := co C1 2 (Int32.toNatClampNeg x1)) (fun w4 ew4 => ?_)
        have h := h w4 ew4
        obtain ⟨v6, rfl, hv7, h⟩ := h
        refine x_getN (ci := 2) (CN := RX2) (T := TX2) (N := 9) E in_X2 hH (17 + 3 * v6) (wC_v0 hv7) rfl 3 (by decide) kfn_X3_66 rfl dX3_row_57 ?_
        exact x_iret E hH h dX3_row_60
      · by_cases hs2 : x2 = 2
        · refine lv_tableIn (off := 44) (tgt := 61) hx hb dX3_row_17 (by rw [hs2]; decide) (by rw [hs2]; decide) (by rw [hs2]; rfl) (by decide) ?_
          have h := h.2.2.1 hs2
          refine lv_aload_n hx hb dX3_row_61 rfl (lv_at hl 1 rfl) ?_
          refine x_get (ci := 3) (CN := RX3) (T := TX3) (N := 11) E in_X3 hH 0 wC_g0 rfl 4 (by decide) kf_X3_18 rfl dX3_row_62 ?_
          refine lv_iload_n hx hb dX3_row_65 rfl (lv_at hl 2 rfl) ?_
          obtain ⟨hi8, h⟩ := h
          refine x_iald E hH 3 0 wC_g3 rfl hi8 dX3_row_66 ?_
          refine lv_if_ne (tgt := 82) hx hb dX3_row_67 (by decide) (fun hc => ?_) (fun hc => ?_)
          · have h := h.1 hc
            refine lv_aload_n hx hb dX3_row_82 rfl (lv_at hl 1 rfl) ?_
            refine lv_bipush (v := (-3 : Int32)) hx hb dX3_row_83 (by decide) ?_
            refine x_ci (x_runV (As := [.int (-3 : Int32)]) (rest := []) E (c_X3_told h) yk_X3_told yi_X3_told km_X3_56 ⟨Nat.le_of_ble_eq_true rfl, Nat.le_of_ble_eq_true rfl⟩ ⟨Nat.le_of_ble_eq_true rfl, Nat.le_of_ble_eq_true rfl⟩ hH (va_recv E.2.2.2.2.2.1 hH.1 (ci := 3) (q0 := 0) rfl wC_g0) hl.1 rfl rfl (lv_room (Nat.le_of_ble_eq_true rfl)) dX3_row_85) hH (fun r10 C9 H locs h hH => ?_)
            exact x_iret E hH h dX3_row_88
          · have h := h.2 hc
            refine lv_aload_n hx hb dX3_row_70 rfl (lv_at hl 1 rfl) ?_
            refine x_get (ci := 3) (CN := RX3) (T := TX3) (N := 11) E in_X3 hH 0 wC_g0 rfl 3 (by decide) kf_X3_15 rfl dX3_row_71 ?_
            refine lv_iload_n hx hb dX3_row_74 rfl (lv_at hl 2 rfl) ?_
            refine x_aald E hH 2 2 wC_g2 rfl hi8 dX3_row_75 ?_
            refine q_top (ad := ad) (x := co C1 2 (Int32.toNatClampNeg x1)) (fun w11 ew11 => ?_)
            have h := h w11 ew11
            obtain ⟨v12, rfl, hv13, h⟩ := h
            refine x_getN (ci := 2) (CN := RX2) (T := TX2) (N := 9) E in_X2 hH (17 + 3 * v12) (wC_v0 hv13) rfl 0 (by decide) kfn_X3_105 rfl dX3_row_76 ?_
            refine lv_goto (tgt := 88) hx hb dX3_row_79 (by decide) ?_
            exact x_iret E hH h dX3_row_88
        · refine lv_tableOut (tgt := 89) hx hb dX3_row_17 (by have := lv_neT hs0 (a := 0) (by decide); have := lv_neT hs1 (a := 1) (by decide); have := lv_neT hs2 (a := 2) (by decide); omega) (by decide) ?_
          have h := h.2.2.2 hs0 hs1 hs2
          refine lv_aload_n hx hb dX3_row_89 rfl (lv_at hl 1 rfl) ?_
          refine lv_iconst (v := (-1 : Int32)) hx hb dX3_row_90 (by decide) ?_
          refine x_ci (x_runV (As := [.int (-1 : Int32)]) (rest := []) E (c_X3_told h) yk_X3_told yi_X3_told km_X3_56 ⟨Nat.le_of_ble_eq_true rfl, Nat.le_of_ble_eq_true rfl⟩ ⟨Nat.le_of_ble_eq_true rfl, Nat.le_of_ble_eq_true rfl⟩ hH (va_recv E.2.2.2.2.2.1 hH.1 (ci := 3) (q0 := 0) rfl wC_g0) hl.1 rfl rfl (lv_room (Nat.le_of_ble_eq_true rfl)) dX3_row_91) hH (fun r15 C14 H locs h hH => ?_)
          exact x_iret E hH h dX3_row_94
  · have h := h.2 hc
    refine lv_aload_n hx hb dX3_row_10 rfl (lv_at hl 1 rfl) ?_
    refine lv_iload_n hx hb dX3_row_11 rfl (lv_at hl 0 rfl) ?_
    refine x_ci (x_runV (As := [.int r2]) (rest := []) E (c_X3_told h) yk_X3_told yi_X3_told km_X3_56 ⟨Nat.le_of_ble_eq_true rfl, Nat.le_of_ble_eq_true rfl⟩ ⟨Nat.le_of_ble_eq_true rfl, Nat.le_of_ble_eq_true rfl⟩ hH (va_recv E.2.2.2.2.2.1 hH.1 (ci := 3) (q0 := 0) rfl wC_g0) hl.1 rfl rfl (lv_room (Nat.le_of_ble_eq_true rfl)) dX3_row_12) hH (fun r17 C16 H locs h hH => ?_)
    exact x_iret E hH h dX3_row_15
set_option maxHeartbeats 4000000 in
set_option maxRecDepth 100000 in
theorem c_X3_at {l : Launch} {D : va_G} {cI cS cO : ClassId} {a ad : Nat → Nat} {C : CS} {x1 : Int32} {x2 : Int32} {post : Int32 → CS → Prop} (h : w_X3_at post C x1 x2) : MetX l D (tyW cI cS cO) yX3_at cX3_at 4 (some .int) 3 0 0 [.ref (a 0), .int x1, .int x2] (wC cI cO a ad C) (QI D (wC cI cO a ad) post) := by
  refine x_ent (by decide) (Nat.le_of_ble_eq_true rfl) ?_
  intro p e s m below meth c ls E _ hH hl
  have hx := E.1
  have hb := E.2.1
  generalize va_A (wC cI cO a ad C) s.heap.size = A at hH ⊢
  have hl : lv_has ls 4 [(0, .ref (a 0)), (1, .int x1), (2, .int x2)] := hl
  unfold w_X3_at at h
  refine lv_aload_n hx hb dX3_at_0 rfl (lv_at hl 0 rfl) ?_
  refine lv_iload_n hx hb dX3_at_1 rfl (lv_at hl 1 rfl) ?_
  refine lv_iload_n hx hb dX3_at_2 rfl (lv_at hl 2 rfl) ?_
  refine x_ci (x_runV (As := [.int x1, .int x2]) (rest := []) E (c_X3_findingOfIndex h) yk_X3_findingOfIndex yi_X3_findingOfIndex km_X3_127 ⟨Nat.le_of_ble_eq_true rfl, Nat.le_of_ble_eq_true rfl⟩ ⟨Nat.le_of_ble_eq_true rfl, Nat.le_of_ble_eq_true rfl⟩ hH (va_recv E.2.2.2.2.2.1 hH.1 (ci := 3) (q0 := 0) rfl wC_g0) hl.1 rfl rfl (lv_room (Nat.le_of_ble_eq_true rfl)) dX3_at_3) hH (fun r2 C1 H locs h hH => ?_)
  refine lv_istore_n (lv' := [(3, .int r2), (0, .ref (a 0)), (1, .int x1), (2, .int x2)]) hx hb dX3_at_6 rfl hl (by decide) rfl (fun ls hl => ?_)
  refine lv_iload_n hx hb dX3_at_7 rfl (lv_at hl 0 rfl) ?_
  refine lv_if_eq (tgt := 17) hx hb dX3_at_8 (by decide) (fun hc => ?_) (fun hc => ?_)
  · have h := h.1 hc
    refine lv_aload_n hx hb dX3_at_17 rfl (lv_at hl 1 rfl) ?_
    refine x_get (ci := 3) (CN := RX3) (T := TX3) (N := 11) E in_X3 hH 0 wC_g0 rfl 5 (by decide) kf_X3_25 rfl dX3_at_18 ?_
    refine lv_aload_n hx hb dX3_at_21 rfl (lv_at hl 1 rfl) ?_
    refine x_get (ci := 3) (CN := RX3) (T := TX3) (N := 11) E in_X3 hH 0 wC_g0 rfl 3 (by decide) kf_X3_15 rfl dX3_at_22 ?_
    refine lv_iload_n hx hb dX3_at_25 rfl (lv_at hl 2 rfl) ?_
    obtain ⟨hi4, h⟩ := h
    refine x_aald E hH 2 2 wC_g2 rfl hi4 dX3_at_26 ?_
    refine q_top (ad := ad) (x := co C1 2 (Int32.toNatClampNeg x1)) (fun w3 ew3 => ?_)
    have h := h w3 ew3
    obtain ⟨v5, rfl, hv6, h⟩ := h
    refine x_cv (x_runVN (As := [.ref (ad (3 * v5))]) (rest := []) E (c_X0_layOut4 h) yk_X0_layOut yi_X0_layOut kmn_X3_88 ⟨Nat.le_of_ble_eq_true rfl, Nat.le_of_ble_eq_true rfl⟩ ⟨Nat.le_of_ble_eq_true rfl, Nat.le_of_ble_eq_true rfl⟩ hH (va_recv E.2.2.2.2.2.1 hH.1 (ci := 0) (q0 := 4) rfl wC_g4) hl.1 rfl rfl (lv_room (Nat.le_of_ble_eq_true rfl)) dX3_at_27) hH (fun C7 H locs h hH => ?_)
    refine lv_aload_n hx hb dX3_at_30 rfl (lv_at hl 1 rfl) ?_
    refine x_get (ci := 3) (CN := RX3) (T := TX3) (N := 11) E in_X3 hH 0 wC_g0 rfl 5 (by decide) kf_X3_25 rfl dX3_at_31 ?_
    refine x_getN (ci := 0) (CN := RX0) (T := TX0) (N := 4) E in_X0 hH 4 wC_g4 rfl 0 (by decide) kfn_X3_92 rfl dX3_at_34 ?_
    refine lv_iload_n hx hb dX3_at_37 rfl (lv_at hl 3 rfl) ?_
    obtain ⟨hi9, h⟩ := h
    refine x_iald E hH 5 0 wC_g5 rfl hi9 dX3_at_38 ?_
    exact x_iret E hH h dX3_at_39
  · have h := h.2 hc
    refine lv_aload_n hx hb dX3_at_11 rfl (lv_at hl 1 rfl) ?_
    refine lv_iload_n hx hb dX3_at_12 rfl (lv_at hl 0 rfl) ?_
    refine x_ci (x_runV (As := [.int r2]) (rest := []) E (c_X3_told h) yk_X3_told yi_X3_told km_X3_56 ⟨Nat.le_of_ble_eq_true rfl, Nat.le_of_ble_eq_true rfl⟩ ⟨Nat.le_of_ble_eq_true rfl, Nat.le_of_ble_eq_true rfl⟩ hH (va_recv E.2.2.2.2.2.1 hH.1 (ci := 3) (q0 := 0) rfl wC_g0) hl.1 rfl rfl (lv_room (Nat.le_of_ble_eq_true rfl)) dX3_at_13) hH (fun r11 C10 H locs h hH => ?_)
    exact x_iret E hH h dX3_at_16
set_option maxHeartbeats 4000000 in
set_option maxRecDepth 100000 in
theorem c_X3_weight {l : Launch} {D : va_G} {cI cS cO : ClassId} {a ad : Nat → Nat} {C : CS} {x1 : Int32} {x2 : Int32} {post : Int64 → CS → Prop} (h : w_X3_weight post C x1 x2) : MetX l D (tyW cI cS cO) yX3_weight cX3_weight 4 (some .long) 3 0 0 [.ref (a 0), .int x1, .int x2] (wC cI cO a ad C) (QL D (wC cI cO a ad) post) := by
  refine x_ent (by decide) (Nat.le_of_ble_eq_true rfl) ?_
  intro p e s m below meth c ls E _ hH hl
  have hx := E.1
  have hb := E.2.1
  generalize va_A (wC cI cO a ad C) s.heap.size = A at hH ⊢
  have hl : lv_has ls 4 [(0, .ref (a 0)), (1, .int x1), (2, .int x2)] := hl
  unfold w_X3_weight at h
  refine lv_aload_n hx hb dX3_weight_0 rfl (lv_at hl 0 rfl) ?_
  refine lv_iload_n hx hb dX3_weight_1 rfl (lv_at hl 1 rfl) ?_
  refine lv_iload_n hx hb dX3_weight_2 rfl (lv_at hl 2 rfl) ?_
  refine x_ci (x_runV (As := [.int x1, .int x2]) (rest := []) E (c_X3_findingOfIndex h) yk_X3_findingOfIndex yi_X3_findingOfIndex km_X3_127 ⟨Nat.le_of_ble_eq_true rfl, Nat.le_of_ble_eq_true rfl⟩ ⟨Nat.le_of_ble_eq_true rfl, Nat.le_of_ble_eq_true rfl⟩ hH (va_recv E.2.2.2.2.2.1 hH.1 (ci := 3) (q0 := 0) rfl wC_g0) hl.1 rfl rfl (lv_room (Nat.le_of_ble_eq_true rfl)) dX3_weight_3) hH (fun r2 C1 H locs h hH => ?_)
  refine lv_istore_n (lv' := [(3, .int r2), (0, .ref (a 0)), (1, .int x1), (2, .int x2)]) hx hb dX3_weight_6 rfl hl (by decide) rfl (fun ls hl => ?_)
  refine lv_iload_n hx hb dX3_weight_7 rfl (lv_at hl 0 rfl) ?_
  refine lv_if_eq (tgt := 19) hx hb dX3_weight_8 (by decide) (fun hc => ?_) (fun hc => ?_)
  · have h := h.1 hc
    refine lv_aload_n hx hb dX3_weight_19 rfl (lv_at hl 1 rfl) ?_
    refine x_get (ci := 3) (CN := RX3) (T := TX3) (N := 11) E in_X3 hH 0 wC_g0 rfl 5 (by decide) kf_X3_25 rfl dX3_weight_20 ?_
    refine lv_aload_n hx hb dX3_weight_23 rfl (lv_at hl 1 rfl) ?_
    refine x_get (ci := 3) (CN := RX3) (T := TX3) (N := 11) E in_X3 hH 0 wC_g0 rfl 3 (by decide) kf_X3_15 rfl dX3_weight_24 ?_
    refine lv_iload_n hx hb dX3_weight_27 rfl (lv_at hl 2 rfl) ?_
    obtain ⟨hi4, h⟩ := h
    refine x_aald E hH 2 2 wC_g2 rfl hi4 dX3_weight_28 ?_
    refine q_top (ad := ad) (x := co C1 2 (Int32.toNatClampNeg x1)) (fun w3 ew3 => ?_)
    have h := h w3 ew3
    obtain ⟨v5, rfl, hv6, h⟩ := h
    refine x_cv (x_runVN (As := [.ref (ad (3 * v5))]) (rest := []) E (c_X0_layOut4 h) yk_X0_layOut yi_X0_layOut kmn_X3_88 ⟨Nat.le_of_ble_eq_true rfl, Nat.le_of_ble_eq_true rfl⟩ ⟨Nat.le_of_ble_eq_true rfl, Nat.le_of_ble_eq_true rfl⟩ hH (va_recv E.2.2.2.2.2.1 hH.1 (ci := 0) (q0 := 4) rfl wC_g4) hl.1 rfl rfl (lv_room (Nat.le_of_ble_eq_true rfl)) dX3_weight_29) hH (fun C7 H locs h hH => ?_)
    refine lv_aload_n hx hb dX3_weight_32 rfl (lv_at hl 1 rfl) ?_
    refine x_get (ci := 3) (CN := RX3) (T := TX3) (N := 11) E in_X3 hH 0 wC_g0 rfl 5 (by decide) kf_X3_25 rfl dX3_weight_33 ?_
    refine x_getN (ci := 0) (CN := RX0) (T := TX0) (N := 4) E in_X0 hH 4 wC_g4 rfl 1 (by decide) kfn_X3_95 rfl dX3_weight_36 ?_
    refine lv_iload_n hx hb dX3_weight_39 rfl (lv_at hl 3 rfl) ?_
    obtain ⟨hi9, h⟩ := h
    refine x_iald E hH 6 0 wC_g6 rfl hi9 dX3_weight_40 ?_
    refine lv_i2l hx hb dX3_weight_41 rfl ?_
    exact x_lret E hH h dX3_weight_42
  · have h := h.2 hc
    refine lv_aload_n hx hb dX3_weight_11 rfl (lv_at hl 1 rfl) ?_
    refine lv_iload_n hx hb dX3_weight_12 rfl (lv_at hl 0 rfl) ?_
    refine x_ci (x_runV (As := [.int r2]) (rest := []) E (c_X3_told h) yk_X3_told yi_X3_told km_X3_56 ⟨Nat.le_of_ble_eq_true rfl, Nat.le_of_ble_eq_true rfl⟩ ⟨Nat.le_of_ble_eq_true rfl, Nat.le_of_ble_eq_true rfl⟩ hH (va_recv E.2.2.2.2.2.1 hH.1 (ci := 3) (q0 := 0) rfl wC_g0) hl.1 rfl rfl (lv_room (Nat.le_of_ble_eq_true rfl)) dX3_weight_13) hH (fun r11 C10 H locs h hH => ?_)
    refine lv_pop hx hb dX3_weight_16 rfl ?_
    refine lv_lconst (v := (0 : Int64)) hx hb dX3_weight_17 (by decide) ?_
    exact x_lret E hH h dX3_weight_18
set_option maxHeartbeats 4000000 in
set_option maxRecDepth 100000 in
theorem k_X3_bit_33 {post : Int32 → CS → Prop} (E : Cx p s m args meth c cX3_bit 6 RX3 (some .int) D (tyW cI cS cO))  {C : CS} {x1 : Int32} {x2 : Int32} {x3 : Int32} {x4 : Int32} {H : Heap} {locs : List Loc} {ls : Array Slot} (hH : HX D (wC cI cO a ad C) A s.heap H locs) (hl : lv_has ls 6 [(0, .ref (a 0)), (1, .int x1), (2, .int x2), (3, .int x3), (4, .int x4)]) (h : w_X3_bit_33 post C x1 x2 x3 x4) : W p l e (rmA 3 0 0) s m args below meth c H locs 0 0 (MQ below ((QI D (wC cI cO a ad) post) A) args s 0 0 A) (F0 m 33 ls []) := by
  have hx := E.1
  have hb := E.2.1
  unfold w_X3_bit_33 at h
  refine lv_iload hx hb dX3_bit_33 (lv_at hl 4 rfl) ?_
  refine lv_if_eq (tgt := 45) hx hb dX3_bit_35 (by decide) (fun hc => ?_) (fun hc => ?_)
  · have h := h.1 hc
    refine lv_aload_n hx hb dX3_bit_45 rfl (lv_at hl 0 rfl) ?_
    refine lv_iload_n hx hb dX3_bit_46 rfl (lv_at hl 1 rfl) ?_
    refine lv_iload_n hx hb dX3_bit_47 rfl (lv_at hl 2 rfl) ?_
    refine x_ci (x_runV (As := [.int x1, .int x2]) (rest := []) E (c_X3_layOutPlane h) yk_X3_layOutPlane yi_X3_layOutPlane km_X3_134 ⟨Nat.le_of_ble_eq_true rfl, Nat.le_of_ble_eq_true rfl⟩ ⟨Nat.le_of_ble_eq_true rfl, Nat.le_of_ble_eq_true rfl⟩ hH (va_recv E.2.2.2.2.2.1 hH.1 (ci := 3) (q0 := 0) rfl wC_g0) hl.1 rfl rfl (lv_room (Nat.le_of_ble_eq_true rfl)) dX3_bit_48) hH (fun r8 C7 H locs h hH => ?_)
    refine lv_istore (lv' := [(5, .int r8), (0, .ref (a 0)), (1, .int x1), (2, .int x2), (3, .int x3), (4, .int x4)]) hx hb dX3_bit_51 hl (by decide) rfl (fun ls hl => ?_)
    refine lv_aload_n hx hb dX3_bit_53 rfl (lv_at hl 1 rfl) ?_
    refine x_get (ci := 3) (CN := RX3) (T := TX3) (N := 11) E in_X3 hH 0 wC_g0 rfl 5 (by decide) kf_X3_25 rfl dX3_bit_54 ?_
    refine x_getN (ci := 0) (CN := RX0) (T := TX0) (N := 4) E in_X0 hH 4 wC_g4 rfl 0 (by decide) kfn_X3_92 rfl dX3_bit_57 ?_
    refine lv_iload_n hx hb dX3_bit_60 rfl (lv_at hl 4 rfl) ?_
    obtain ⟨hi9, h⟩ := h
    refine x_iald E hH 5 0 wC_g5 rfl hi9 dX3_bit_61 ?_
    refine lv_iload hx hb dX3_bit_62 (lv_at hl 0 rfl) ?_
    refine lv_iushr hx hb dX3_bit_64 rfl ?_
    refine lv_iconst (v := (1 : Int32)) hx hb dX3_bit_65 (by decide) ?_
    refine lv_iand hx hb dX3_bit_66 ?_
    exact x_iret E hH h dX3_bit_67
  · have h := h.2 hc
    refine lv_aload_n hx hb dX3_bit_38 rfl (lv_at hl 0 rfl) ?_
    refine lv_iload hx hb dX3_bit_39 (lv_at hl 4 rfl) ?_
    refine x_ci (x_runV (As := [.int x4]) (rest := []) E (c_X3_told h) yk_X3_told yi_X3_told km_X3_56 ⟨Nat.le_of_ble_eq_true rfl, Nat.le_of_ble_eq_true rfl⟩ ⟨Nat.le_of_ble_eq_true rfl, Nat.le_of_ble_eq_true rfl⟩ hH (va_recv E.2.2.2.2.2.1 hH.1 (ci := 3) (q0 := 0) rfl wC_g0) hl.1 rfl rfl (lv_room (Nat.le_of_ble_eq_true rfl)) dX3_bit_41) hH (fun r11 C10 H locs h hH => ?_)
    exact x_iret E hH h dX3_bit_44
set_option maxHeartbeats 4000000 in
set_option maxRecDepth 100000 in
theorem k_X3_bit_30 {post : Int32 → CS → Prop} (E : Cx p s m args meth c cX3_bit 6 RX3 (some .int) D (tyW cI cS cO))  {C : CS} {x1 : Int32} {x2 : Int32} {x3 : Int32} {H : Heap} {locs : List Loc} {ls : Array Slot} (hH : HX D (wC cI cO a ad C) A s.heap H locs) (hl : lv_has ls 6 [(0, .ref (a 0)), (1, .int x1), (2, .int x2), (3, .int x3)]) (h : w_X3_bit_30 post C x1 x2 x3) : W p l e (rmA 3 0 0) s m args below meth c H locs 0 0 (MQ below ((QI D (wC cI cO a ad) post) A) args s 0 0 A) (F0 m 30 ls []) := by
  have hx := E.1
  have hb := E.2.1
  unfold w_X3_bit_30 at h
  refine lv_iconst (v := (-1 : Int32)) hx hb dX3_bit_30 (by decide) ?_
  refine lv_istore (lv' := [(4, .int (-1 : Int32)), (0, .ref (a 0)), (1, .int x1), (2, .int x2), (3, .int x3)]) hx hb dX3_bit_31 hl (by decide) rfl (fun ls hl => ?_)
  exact k_X3_bit_33 E  hH (lv_sub hl [1, 2, 3, 4, 0] rfl) h
set_option maxHeartbeats 4000000 in
set_option maxRecDepth 100000 in
theorem c_X3_bit {l : Launch} {D : va_G} {cI cS cO : ClassId} {a ad : Nat → Nat} {C : CS} {x1 : Int32} {x2 : Int32} {x3 : Int32} {post : Int32 → CS → Prop} (h : w_X3_bit post C x1 x2 x3) : MetX l D (tyW cI cS cO) yX3_bit cX3_bit 6 (some .int) 3 0 0 [.ref (a 0), .int x1, .int x2, .int x3] (wC cI cO a ad C) (QI D (wC cI cO a ad) post) := by
  refine x_ent (by decide) (Nat.le_of_ble_eq_true rfl) ?_
  intro p e s m below meth c ls E _ hH hl
  have hx := E.1
  have hb := E.2.1
  generalize va_A (wC cI cO a ad C) s.heap.size = A at hH ⊢
  have hl : lv_has ls 6 [(0, .ref (a 0)), (1, .int x1), (2, .int x2), (3, .int x3)] := hl
  unfold w_X3_bit at h
  refine lv_aload_n hx hb dX3_bit_0 rfl (lv_at hl 0 rfl) ?_
  refine lv_iload_n hx hb dX3_bit_1 rfl (lv_at hl 1 rfl) ?_
  refine lv_iload_n hx hb dX3_bit_2 rfl (lv_at hl 2 rfl) ?_
  refine x_ci (x_runV (As := [.int x1, .int x2]) (rest := []) E (c_X3_findingOfPlane h) yk_X3_findingOfPlane yi_X3_findingOfPlane km_X3_131 ⟨Nat.le_of_ble_eq_true rfl, Nat.le_of_ble_eq_true rfl⟩ ⟨Nat.le_of_ble_eq_true rfl, Nat.le_of_ble_eq_true rfl⟩ hH (va_recv E.2.2.2.2.2.1 hH.1 (ci := 3) (q0 := 0) rfl wC_g0) hl.1 rfl rfl (lv_room (Nat.le_of_ble_eq_true rfl)) dX3_bit_3) hH (fun r2 C1 H locs h hH => ?_)
  refine lv_istore (lv' := [(4, .int r2), (0, .ref (a 0)), (1, .int x1), (2, .int x2), (3, .int x3)]) hx hb dX3_bit_6 hl (by decide) rfl (fun ls hl => ?_)
  refine lv_iload hx hb dX3_bit_8 (lv_at hl 0 rfl) ?_
  refine lv_if_ne (tgt := 33) hx hb dX3_bit_10 (by decide) (fun hc => ?_) (fun hc => ?_)
  · have h := h.1 hc
    exact k_X3_bit_33 E  hH (lv_sub hl [1, 2, 3, 4, 0] rfl) h
  · have h := h.2 hc
    refine lv_iload_n hx hb dX3_bit_13 rfl (lv_at hl 4 rfl) ?_
    refine lv_if_lt (tgt := 30) hx hb dX3_bit_14 (by decide) (fun hc => ?_) (fun hc => ?_)
    · have h := h.1 hc
      exact k_X3_bit_30 E  hH (lv_sub hl [1, 2, 3, 4] rfl) h
    · have h := h.2 hc
      refine lv_iload_n hx hb dX3_bit_17 rfl (lv_at hl 4 rfl) ?_
      refine lv_aload_n hx hb dX3_bit_18 rfl (lv_at hl 1 rfl) ?_
      refine x_get (ci := 3) (CN := RX3) (T := TX3) (N := 11) E in_X3 hH 0 wC_g0 rfl 3 (by decide) kf_X3_15 rfl dX3_bit_19 ?_
      refine lv_iload_n hx hb dX3_bit_22 rfl (lv_at hl 2 rfl) ?_
      obtain ⟨hi4, h⟩ := h
      refine x_aald E hH 2 2 wC_g2 rfl hi4 dX3_bit_23 ?_
      refine q_top (ad := ad) (x := co C1 2 (Int32.toNatClampNeg x1)) (fun w3 ew3 => ?_)
      have h := h w3 ew3
      obtain ⟨v5, rfl, hv6, h⟩ := h
      refine x_getN (ci := 2) (CN := RX2) (T := TX2) (N := 9) E in_X2 hH (17 + 3 * v5) (wC_v0 hv6) rfl 3 (by decide) kfn_X3_66 rfl dX3_bit_24 ?_
      refine lv_icmp_lt (tgt := 33) hx hb dX3_bit_27 (by decide) (fun hc => ?_) (fun hc => ?_)
      · have h := h.1 hc
        exact k_X3_bit_33 E  hH (lv_sub hl [1, 2, 3, 4, 0] rfl) h
      · have h := h.2 hc
        exact k_X3_bit_30 E  hH (lv_sub hl [1, 2, 3, 4] rfl) h
set_option maxHeartbeats 4000000 in
set_option maxRecDepth 100000 in
theorem k_X3_ones_33 {post : Int32 → CS → Prop} (E : Cx p s m args meth c cX3_ones 6 RX3 (some .int) D (tyW cI cS cO))  {C : CS} {x1 : Int32} {x2 : Int32} {x3 : Int32} {x4 : Int32} {H : Heap} {locs : List Loc} {ls : Array Slot} (hH : HX D (wC cI cO a ad C) A s.heap H locs) (hl : lv_has ls 6 [(0, .ref (a 0)), (1, .int x1), (2, .int x2), (3, .int x3), (4, .int x4)]) (h : w_X3_ones_33 post C x1 x2 x3 x4) : W p l e (rmA 3 0 0) s m args below meth c H locs 0 0 (MQ below ((QI D (wC cI cO a ad) post) A) args s 0 0 A) (F0 m 33 ls []) := by
  have hx := E.1
  have hb := E.2.1
  unfold w_X3_ones_33 at h
  refine lv_iload hx hb dX3_ones_33 (lv_at hl 4 rfl) ?_
  refine lv_if_eq (tgt := 45) hx hb dX3_ones_35 (by decide) (fun hc => ?_) (fun hc => ?_)
  · have h := h.1 hc
    refine lv_aload_n hx hb dX3_ones_45 rfl (lv_at hl 0 rfl) ?_
    refine lv_iload_n hx hb dX3_ones_46 rfl (lv_at hl 1 rfl) ?_
    refine lv_iload_n hx hb dX3_ones_47 rfl (lv_at hl 2 rfl) ?_
    refine x_ci (x_runV (As := [.int x1, .int x2]) (rest := []) E (c_X3_layOutPlane h) yk_X3_layOutPlane yi_X3_layOutPlane km_X3_134 ⟨Nat.le_of_ble_eq_true rfl, Nat.le_of_ble_eq_true rfl⟩ ⟨Nat.le_of_ble_eq_true rfl, Nat.le_of_ble_eq_true rfl⟩ hH (va_recv E.2.2.2.2.2.1 hH.1 (ci := 3) (q0 := 0) rfl wC_g0) hl.1 rfl rfl (lv_room (Nat.le_of_ble_eq_true rfl)) dX3_ones_48) hH (fun r8 C7 H locs h hH => ?_)
    refine lv_istore (lv' := [(5, .int r8), (0, .ref (a 0)), (1, .int x1), (2, .int x2), (3, .int x3), (4, .int x4)]) hx hb dX3_ones_51 hl (by decide) rfl (fun ls hl => ?_)
    refine lv_aload_n hx hb dX3_ones_53 rfl (lv_at hl 1 rfl) ?_
    refine x_get (ci := 3) (CN := RX3) (T := TX3) (N := 11) E in_X3 hH 0 wC_g0 rfl 5 (by decide) kf_X3_25 rfl dX3_ones_54 ?_
    refine lv_iload hx hb dX3_ones_57 (lv_at hl 0 rfl) ?_
    refine lv_iload_n hx hb dX3_ones_59 rfl (lv_at hl 4 rfl) ?_
    refine x_ci (x_runVN (As := [.int r8, .int x3]) (rest := []) E (c_X0_countOnes h) yk_X0_countOnes yi_X0_countOnes kmn_X3_137 ⟨Nat.le_of_ble_eq_true rfl, Nat.le_of_ble_eq_true rfl⟩ ⟨Nat.le_of_ble_eq_true rfl, Nat.le_of_ble_eq_true rfl⟩ hH (va_recv E.2.2.2.2.2.1 hH.1 (ci := 0) (q0 := 4) rfl wC_g4) hl.1 rfl rfl (lv_room (Nat.le_of_ble_eq_true rfl)) dX3_ones_60) hH (fun r10 C9 H locs h hH => ?_)
    exact x_iret E hH h dX3_ones_63
  · have h := h.2 hc
    refine lv_aload_n hx hb dX3_ones_38 rfl (lv_at hl 0 rfl) ?_
    refine lv_iload hx hb dX3_ones_39 (lv_at hl 4 rfl) ?_
    refine x_ci (x_runV (As := [.int x4]) (rest := []) E (c_X3_told h) yk_X3_told yi_X3_told km_X3_56 ⟨Nat.le_of_ble_eq_true rfl, Nat.le_of_ble_eq_true rfl⟩ ⟨Nat.le_of_ble_eq_true rfl, Nat.le_of_ble_eq_true rfl⟩ hH (va_recv E.2.2.2.2.2.1 hH.1 (ci := 3) (q0 := 0) rfl wC_g0) hl.1 rfl rfl (lv_room (Nat.le_of_ble_eq_true rfl)) dX3_ones_41) hH (fun r12 C11 H locs h hH => ?_)
    exact x_iret E hH h dX3_ones_44
set_option maxHeartbeats 4000000 in
set_option maxRecDepth 100000 in
theorem k_X3_ones_30 {post : Int32 → CS → Prop} (E : Cx p s m args meth c cX3_ones 6 RX3 (some .int) D (tyW cI cS cO))  {C : CS} {x1 : Int32} {x2 : Int32} {x3 : Int32} {H : Heap} {locs : List Loc} {ls : Array Slot} (hH : HX D (wC cI cO a ad C) A s.heap H locs) (hl : lv_has ls 6 [(0, .ref (a 0)), (1, .int x1), (2, .int x2), (3, .int x3)]) (h : w_X3_ones_30 post C x1 x2 x3) : W p l e (rmA 3 0 0) s m args below meth c H locs 0 0 (MQ below ((QI D (wC cI cO a ad) post) A) args s 0 0 A) (F0 m 30 ls []) := by
  have hx := E.1
  have hb := E.2.1
  unfold w_X3_ones_30 at h
  refine lv_iconst (v := (-1 : Int32)) hx hb dX3_ones_30 (by decide) ?_
  refine lv_istore (lv' := [(4, .int (-1 : Int32)), (0, .ref (a 0)), (1, .int x1), (2, .int x2), (3, .int x3)]) hx hb dX3_ones_31 hl (by decide) rfl (fun ls hl => ?_)
  exact k_X3_ones_33 E  hH (lv_sub hl [1, 2, 3, 4, 0] rfl) h
set_option maxHeartbeats 4000000 in
set_option maxRecDepth 100000 in
theorem c_X3_ones {l : Launch} {D : va_G} {cI cS cO : ClassId} {a ad : Nat → Nat} {C : CS} {x1 : Int32} {x2 : Int32} {x3 : Int32} {post : Int32 → CS → Prop} (h : w_X3_ones post C x1 x2 x3) : MetX l D (tyW cI cS cO) yX3_ones cX3_ones 6 (some .int) 3 0 0 [.ref (a 0), .int x1, .int x2, .int x3] (wC cI cO a ad C) (QI D (wC cI cO a ad) post) := by
  refine x_ent (by decide) (Nat.le_of_ble_eq_true rfl) ?_
  intro p e s m below meth c ls E _ hH hl
  have hx := E.1
  have hb := E.2.1
  generalize va_A (wC cI cO a ad C) s.heap.size = A at hH ⊢
  have hl : lv_has ls 6 [(0, .ref (a 0)), (1, .int x1), (2, .int x2), (3, .int x3)] := hl
  unfold w_X3_ones at h
  refine lv_aload_n hx hb dX3_ones_0 rfl (lv_at hl 0 rfl) ?_
  refine lv_iload_n hx hb dX3_ones_1 rfl (lv_at hl 1 rfl) ?_
  refine lv_iload_n hx hb dX3_ones_2 rfl (lv_at hl 2 rfl) ?_
  refine x_ci (x_runV (As := [.int x1, .int x2]) (rest := []) E (c_X3_findingOfPlane h) yk_X3_findingOfPlane yi_X3_findingOfPlane km_X3_131 ⟨Nat.le_of_ble_eq_true rfl, Nat.le_of_ble_eq_true rfl⟩ ⟨Nat.le_of_ble_eq_true rfl, Nat.le_of_ble_eq_true rfl⟩ hH (va_recv E.2.2.2.2.2.1 hH.1 (ci := 3) (q0 := 0) rfl wC_g0) hl.1 rfl rfl (lv_room (Nat.le_of_ble_eq_true rfl)) dX3_ones_3) hH (fun r2 C1 H locs h hH => ?_)
  refine lv_istore (lv' := [(4, .int r2), (0, .ref (a 0)), (1, .int x1), (2, .int x2), (3, .int x3)]) hx hb dX3_ones_6 hl (by decide) rfl (fun ls hl => ?_)
  refine lv_iload hx hb dX3_ones_8 (lv_at hl 0 rfl) ?_
  refine lv_if_ne (tgt := 33) hx hb dX3_ones_10 (by decide) (fun hc => ?_) (fun hc => ?_)
  · have h := h.1 hc
    exact k_X3_ones_33 E  hH (lv_sub hl [1, 2, 3, 4, 0] rfl) h
  · have h := h.2 hc
    refine lv_iload_n hx hb dX3_ones_13 rfl (lv_at hl 4 rfl) ?_
    refine lv_if_lt (tgt := 30) hx hb dX3_ones_14 (by decide) (fun hc => ?_) (fun hc => ?_)
    · have h := h.1 hc
      exact k_X3_ones_30 E  hH (lv_sub hl [1, 2, 3, 4] rfl) h
    · have h := h.2 hc
      refine lv_iload_n hx hb dX3_ones_17 rfl (lv_at hl 4 rfl) ?_
      refine lv_aload_n hx hb dX3_ones_18 rfl (lv_at hl 1 rfl) ?_
      refine x_get (ci := 3) (CN := RX3) (T := TX3) (N := 11) E in_X3 hH 0 wC_g0 rfl 3 (by decide) kf_X3_15 rfl dX3_ones_19 ?_
      refine lv_iload_n hx hb dX3_ones_22 rfl (lv_at hl 2 rfl) ?_
      obtain ⟨hi4, h⟩ := h
      refine x_aald E hH 2 2 wC_g2 rfl hi4 dX3_ones_23 ?_
      refine q_top (ad := ad) (x := co C1 2 (Int32.toNatClampNeg x1)) (fun w3 ew3 => ?_)
      have h := h w3 ew3
      obtain ⟨v5, rfl, hv6, h⟩ := h
      refine x_getN (ci := 2) (CN := RX2) (T := TX2) (N := 9) E in_X2 hH (17 + 3 * v5) (wC_v0 hv6) rfl 3 (by decide) kfn_X3_66 rfl dX3_ones_24 ?_
      refine lv_icmp_le (tgt := 33) hx hb dX3_ones_27 (by decide) (fun hc => ?_) (fun hc => ?_)
      · have h := h.1 hc
        exact k_X3_ones_33 E  hH (lv_sub hl [1, 2, 3, 4, 0] rfl) h
      · have h := h.2 hc
        exact k_X3_ones_30 E  hH (lv_sub hl [1, 2, 3, 4] rfl) h
set_option maxHeartbeats 4000000 in
set_option maxRecDepth 100000 in
theorem k_X3_kth_31 {post : Int32 → CS → Prop} (E : Cx p s m args meth c cX3_kth 6 RX3 (some .int) D (tyW cI cS cO))  {C : CS} {x1 : Int32} {x2 : Int32} {x3 : Int32} {x4 : Int32} {x5 : Int32} {H : Heap} {locs : List Loc} {ls : Array Slot} (hH : HX D (wC cI cO a ad C) A s.heap H locs) (hl : lv_has ls 6 [(0, .ref (a 0)), (1, .int x1), (2, .int x2), (3, .int x3), (4, .int x4), (5, .int x5)]) (h : w_X3_kth_31 post C x1 x2 x3 x4 x5) : W p l e (rmA 4 0 0) s m args below meth c H locs 0 0 (MQ below ((QI D (wC cI cO a ad) post) A) args s 0 0 A) (F0 m 31 ls []) := by
  have hx := E.1
  have hb := E.2.1
  unfold w_X3_kth_31 at h
  refine lv_iload hx hb dX3_kth_31 (lv_at hl 5 rfl) ?_
  refine lv_if_eq (tgt := 45) hx hb dX3_kth_33 (by decide) (fun hc => ?_) (fun hc => ?_)
  · have h := h.1 hc
    refine lv_aload_n hx hb dX3_kth_45 rfl (lv_at hl 0 rfl) ?_
    refine lv_iload_n hx hb dX3_kth_46 rfl (lv_at hl 2 rfl) ?_
    refine lv_iload_n hx hb dX3_kth_47 rfl (lv_at hl 3 rfl) ?_
    refine lv_iload hx hb dX3_kth_48 (lv_at hl 4 rfl) ?_
    refine lv_aload_n hx hb dX3_kth_50 rfl (lv_at hl 0 rfl) ?_
    refine lv_iload_n hx hb dX3_kth_51 rfl (lv_at hl 1 rfl) ?_
    refine x_ci (x_runV (As := [.int x1]) (rest := [.int x4, .int x3, .int x2, .ref (a 0)]) E (c_X3_topBitOf h) yk_X3_topBitOf yi_X3_topBitOf km_X3_143 ⟨Nat.le_of_ble_eq_true rfl, Nat.le_of_ble_eq_true rfl⟩ ⟨Nat.le_of_ble_eq_true rfl, Nat.le_of_ble_eq_true rfl⟩ hH (va_recv E.2.2.2.2.2.1 hH.1 (ci := 3) (q0 := 0) rfl wC_g0) hl.1 rfl rfl (lv_room (Nat.le_of_ble_eq_true rfl)) dX3_kth_52) hH (fun r4 C3 H locs h hH => ?_)
    refine x_ci (x_runV (As := [.int x2, .int x3, .int x4, .int r4]) (rest := []) E (c_X3_goDown h) yk_X3_goDown yi_X3_goDown km_X3_146 ⟨Nat.le_of_ble_eq_true rfl, Nat.le_of_ble_eq_true rfl⟩ ⟨Nat.le_of_ble_eq_true rfl, Nat.le_of_ble_eq_true rfl⟩ hH (va_recv E.2.2.2.2.2.1 hH.1 (ci := 3) (q0 := 0) rfl wC_g0) hl.1 rfl rfl (lv_room (Nat.le_of_ble_eq_true rfl)) dX3_kth_55) hH (fun r6 C5 H locs h hH => ?_)
    exact x_iret E hH h dX3_kth_58
  · have h := h.2 hc
    refine lv_aload_n hx hb dX3_kth_36 rfl (lv_at hl 0 rfl) ?_
    refine lv_iload hx hb dX3_kth_37 (lv_at hl 5 rfl) ?_
    refine x_ci (x_runV (As := [.int x5]) (rest := []) E (c_X3_told h) yk_X3_told yi_X3_told km_X3_56 ⟨Nat.le_of_ble_eq_true rfl, Nat.le_of_ble_eq_true rfl⟩ ⟨Nat.le_of_ble_eq_true rfl, Nat.le_of_ble_eq_true rfl⟩ hH (va_recv E.2.2.2.2.2.1 hH.1 (ci := 3) (q0 := 0) rfl wC_g0) hl.1 rfl rfl (lv_room (Nat.le_of_ble_eq_true rfl)) dX3_kth_39) hH (fun r8 C7 H locs h hH => ?_)
    refine lv_goto (tgt := 58) hx hb dX3_kth_42 (by decide) ?_
    exact x_iret E hH h dX3_kth_58
set_option maxHeartbeats 4000000 in
set_option maxRecDepth 100000 in
theorem k_X3_kth_27 {post : Int32 → CS → Prop} (E : Cx p s m args meth c cX3_kth 6 RX3 (some .int) D (tyW cI cS cO))  {C : CS} {x1 : Int32} {x2 : Int32} {x3 : Int32} {x4 : Int32} {H : Heap} {locs : List Loc} {ls : Array Slot} (hH : HX D (wC cI cO a ad C) A s.heap H locs) (hl : lv_has ls 6 [(0, .ref (a 0)), (1, .int x1), (2, .int x2), (3, .int x3), (4, .int x4)]) (h : w_X3_kth_27 post C x1 x2 x3 x4) : W p l e (rmA 4 0 0) s m args below meth c H locs 0 0 (MQ below ((QI D (wC cI cO a ad) post) A) args s 0 0 A) (F0 m 27 ls []) := by
  have hx := E.1
  have hb := E.2.1
  unfold w_X3_kth_27 at h
  refine lv_bipush (v := (-6 : Int32)) hx hb dX3_kth_27 (by decide) ?_
  refine lv_istore (lv' := [(5, .int (-6 : Int32)), (0, .ref (a 0)), (1, .int x1), (2, .int x2), (3, .int x3), (4, .int x4)]) hx hb dX3_kth_29 hl (by decide) rfl (fun ls hl => ?_)
  exact k_X3_kth_31 E  hH (lv_sub hl [1, 2, 3, 4, 5, 0] rfl) h
set_option maxHeartbeats 4000000 in
set_option maxRecDepth 100000 in
theorem c_X3_kth {l : Launch} {D : va_G} {cI cS cO : ClassId} {a ad : Nat → Nat} {C : CS} {x1 : Int32} {x2 : Int32} {x3 : Int32} {x4 : Int32} {post : Int32 → CS → Prop} (h : w_X3_kth post C x1 x2 x3 x4) : MetX l D (tyW cI cS cO) yX3_kth cX3_kth 6 (some .int) 4 0 0 [.ref (a 0), .int x1, .int x2, .int x3, .int x4] (wC cI cO a ad C) (QI D (wC cI cO a ad) post) := by
  refine x_ent (by decide) (Nat.le_of_ble_eq_true rfl) ?_
  intro p e s m below meth c ls E _ hH hl
  have hx := E.1
  have hb := E.2.1
  generalize va_A (wC cI cO a ad C) s.heap.size = A at hH ⊢
  have hl : lv_has ls 6 [(0, .ref (a 0)), (1, .int x1), (2, .int x2), (3, .int x3), (4, .int x4)] := hl
  unfold w_X3_kth at h
  refine lv_aload_n hx hb dX3_kth_0 rfl (lv_at hl 0 rfl) ?_
  refine lv_iload_n hx hb dX3_kth_1 rfl (lv_at hl 1 rfl) ?_
  refine lv_iload_n hx hb dX3_kth_2 rfl (lv_at hl 2 rfl) ?_
  refine lv_iload_n hx hb dX3_kth_3 rfl (lv_at hl 3 rfl) ?_
  refine x_ci (x_runV (As := [.int x1, .int x2, .int x3]) (rest := []) E (c_X3_layOutSpan h) yk_X3_layOutSpan yi_X3_layOutSpan km_X3_140 ⟨Nat.le_of_ble_eq_true rfl, Nat.le_of_ble_eq_true rfl⟩ ⟨Nat.le_of_ble_eq_true rfl, Nat.le_of_ble_eq_true rfl⟩ hH (va_recv E.2.2.2.2.2.1 hH.1 (ci := 3) (q0 := 0) rfl wC_g0) hl.1 rfl rfl (lv_room (Nat.le_of_ble_eq_true rfl)) dX3_kth_4) hH (fun r2 C1 H locs h hH => ?_)
  refine lv_istore (lv' := [(5, .int r2), (0, .ref (a 0)), (1, .int x1), (2, .int x2), (3, .int x3), (4, .int x4)]) hx hb dX3_kth_7 hl (by decide) rfl (fun ls hl => ?_)
  refine lv_iload hx hb dX3_kth_9 (lv_at hl 0 rfl) ?_
  refine lv_if_ne (tgt := 31) hx hb dX3_kth_11 (by decide) (fun hc => ?_) (fun hc => ?_)
  · have h := h.1 hc
    exact k_X3_kth_31 E  hH (lv_sub hl [1, 2, 3, 4, 5, 0] rfl) h
  · have h := h.2 hc
    refine lv_iload hx hb dX3_kth_14 (lv_at hl 5 rfl) ?_
    refine lv_if_lt (tgt := 27) hx hb dX3_kth_16 (by decide) (fun hc => ?_) (fun hc => ?_)
    · have h := h.1 hc
      exact k_X3_kth_27 E  hH (lv_sub hl [1, 2, 3, 4, 5] rfl) h
    · have h := h.2 hc
      refine lv_iload hx hb dX3_kth_19 (lv_at hl 5 rfl) ?_
      refine lv_iload_n hx hb dX3_kth_21 rfl (lv_at hl 4 rfl) ?_
      refine lv_iload_n hx hb dX3_kth_22 rfl (lv_at hl 3 rfl) ?_
      refine lv_isub hx hb dX3_kth_23 ?_
      refine lv_icmp_lt (tgt := 31) hx hb dX3_kth_24 (by decide) (fun hc => ?_) (fun hc => ?_)
      · have h := h.1 hc
        exact k_X3_kth_31 E  hH (lv_sub hl [1, 2, 3, 4, 5, 0] rfl) h
      · have h := h.2 hc
        exact k_X3_kth_27 E  hH (lv_sub hl [1, 2, 3, 4, 5] rfl) h
set_option maxHeartbeats 4000000 in
set_option maxRecDepth 100000 in
theorem c_X3_rank {l : Launch} {D : va_G} {cI cS cO : ClassId} {a ad : Nat → Nat} {C : CS} {x1 : Int32} {x2 : Int32} {x3 : Int32} {x4 : Int32} {post : Int32 → CS → Prop} (h : w_X3_rank post C x1 x2 x3 x4) : MetX l D (tyW cI cS cO) yX3_rank cX3_rank 6 (some .int) 4 0 0 [.ref (a 0), .int x1, .int x2, .int x3, .int x4] (wC cI cO a ad C) (QI D (wC cI cO a ad) post) := by
  refine x_ent (by decide) (Nat.le_of_ble_eq_true rfl) ?_
  intro p e s m below meth c ls E _ hH hl
  have hx := E.1
  have hb := E.2.1
  generalize va_A (wC cI cO a ad C) s.heap.size = A at hH ⊢
  have hl : lv_has ls 6 [(0, .ref (a 0)), (1, .int x1), (2, .int x2), (3, .int x3), (4, .int x4)] := hl
  unfold w_X3_rank at h
  refine lv_aload_n hx hb dX3_rank_0 rfl (lv_at hl 0 rfl) ?_
  refine lv_iload_n hx hb dX3_rank_1 rfl (lv_at hl 1 rfl) ?_
  refine lv_iload_n hx hb dX3_rank_2 rfl (lv_at hl 2 rfl) ?_
  refine lv_iload_n hx hb dX3_rank_3 rfl (lv_at hl 3 rfl) ?_
  refine x_ci (x_runV (As := [.int x1, .int x2, .int x3]) (rest := []) E (c_X3_layOutSpan h) yk_X3_layOutSpan yi_X3_layOutSpan km_X3_140 ⟨Nat.le_of_ble_eq_true rfl, Nat.le_of_ble_eq_true rfl⟩ ⟨Nat.le_of_ble_eq_true rfl, Nat.le_of_ble_eq_true rfl⟩ hH (va_recv E.2.2.2.2.2.1 hH.1 (ci := 3) (q0 := 0) rfl wC_g0) hl.1 rfl rfl (lv_room (Nat.le_of_ble_eq_true rfl)) dX3_rank_4) hH (fun r2 C1 H locs h hH => ?_)
  refine lv_istore (lv' := [(5, .int r2), (0, .ref (a 0)), (1, .int x1), (2, .int x2), (3, .int x3), (4, .int x4)]) hx hb dX3_rank_7 hl (by decide) rfl (fun ls hl => ?_)
  refine lv_iload hx hb dX3_rank_9 (lv_at hl 0 rfl) ?_
  refine lv_if_eq (tgt := 23) hx hb dX3_rank_11 (by decide) (fun hc => ?_) (fun hc => ?_)
  · have h := h.1 hc
    refine lv_aload_n hx hb dX3_rank_23 rfl (lv_at hl 1 rfl) ?_
    refine x_get (ci := 3) (CN := RX3) (T := TX3) (N := 11) E in_X3 hH 0 wC_g0 rfl 5 (by decide) kf_X3_25 rfl dX3_rank_24 ?_
    refine lv_iload_n hx hb dX3_rank_27 rfl (lv_at hl 3 rfl) ?_
    refine lv_iload_n hx hb dX3_rank_28 rfl (lv_at hl 4 rfl) ?_
    refine lv_iload hx hb dX3_rank_29 (lv_at hl 5 rfl) ?_
    refine x_ci (x_runVN (As := [.int x2, .int x3, .int x4]) (rest := []) E (c_X0_countBelow h) yk_X0_countBelow yi_X0_countBelow kmn_X3_150 ⟨Nat.le_of_ble_eq_true rfl, Nat.le_of_ble_eq_true rfl⟩ ⟨Nat.le_of_ble_eq_true rfl, Nat.le_of_ble_eq_true rfl⟩ hH (va_recv E.2.2.2.2.2.1 hH.1 (ci := 0) (q0 := 4) rfl wC_g4) hl.1 rfl rfl (lv_room (Nat.le_of_ble_eq_true rfl)) dX3_rank_31) hH (fun r4 C3 H locs h hH => ?_)
    exact x_iret E hH h dX3_rank_34
  · have h := h.2 hc
    refine lv_aload_n hx hb dX3_rank_14 rfl (lv_at hl 1 rfl) ?_
    refine lv_iload hx hb dX3_rank_15 (lv_at hl 0 rfl) ?_
    refine x_ci (x_runV (As := [.int r2]) (rest := []) E (c_X3_told h) yk_X3_told yi_X3_told km_X3_56 ⟨Nat.le_of_ble_eq_true rfl, Nat.le_of_ble_eq_true rfl⟩ ⟨Nat.le_of_ble_eq_true rfl, Nat.le_of_ble_eq_true rfl⟩ hH (va_recv E.2.2.2.2.2.1 hH.1 (ci := 3) (q0 := 0) rfl wC_g0) hl.1 rfl rfl (lv_room (Nat.le_of_ble_eq_true rfl)) dX3_rank_17) hH (fun r6 C5 H locs h hH => ?_)
    refine lv_goto (tgt := 34) hx hb dX3_rank_20 (by decide) ?_
    exact x_iret E hH h dX3_rank_34
set_option maxHeartbeats 4000000 in
set_option maxRecDepth 100000 in
theorem c_X3_between {l : Launch} {D : va_G} {cI cS cO : ClassId} {a ad : Nat → Nat} {C : CS} {x1 : Int32} {x2 : Int32} {x3 : Int32} {x4 : Int32} {x5 : Int32} {post : Int32 → CS → Prop} (h : w_X3_between post C x1 x2 x3 x4 x5) : MetX l D (tyW cI cS cO) yX3_between cX3_between 7 (some .int) 4 0 0 [.ref (a 0), .int x1, .int x2, .int x3, .int x4, .int x5] (wC cI cO a ad C) (QI D (wC cI cO a ad) post) := by
  refine x_ent (by decide) (Nat.le_of_ble_eq_true rfl) ?_
  intro p e s m below meth c ls E _ hH hl
  have hx := E.1
  have hb := E.2.1
  generalize va_A (wC cI cO a ad C) s.heap.size = A at hH ⊢
  have hl : lv_has ls 7 [(0, .ref (a 0)), (1, .int x1), (2, .int x2), (3, .int x3), (4, .int x4), (5, .int x5)] := hl
  unfold w_X3_between at h
  refine lv_aload_n hx hb dX3_between_0 rfl (lv_at hl 0 rfl) ?_
  refine lv_iload_n hx hb dX3_between_1 rfl (lv_at hl 1 rfl) ?_
  refine lv_iload_n hx hb dX3_between_2 rfl (lv_at hl 2 rfl) ?_
  refine lv_iload_n hx hb dX3_between_3 rfl (lv_at hl 3 rfl) ?_
  refine x_ci (x_runV (As := [.int x1, .int x2, .int x3]) (rest := []) E (c_X3_layOutSpan h) yk_X3_layOutSpan yi_X3_layOutSpan km_X3_140 ⟨Nat.le_of_ble_eq_true rfl, Nat.le_of_ble_eq_true rfl⟩ ⟨Nat.le_of_ble_eq_true rfl, Nat.le_of_ble_eq_true rfl⟩ hH (va_recv E.2.2.2.2.2.1 hH.1 (ci := 3) (q0 := 0) rfl wC_g0) hl.1 rfl rfl (lv_room (Nat.le_of_ble_eq_true rfl)) dX3_between_4) hH (fun r2 C1 H locs h hH => ?_)
  refine lv_istore (lv' := [(6, .int r2), (0, .ref (a 0)), (1, .int x1), (2, .int x2), (3, .int x3), (4, .int x4), (5, .int x5)]) hx hb dX3_between_7 hl (by decide) rfl (fun ls hl => ?_)
  refine lv_iload hx hb dX3_between_9 (lv_at hl 0 rfl) ?_
  refine lv_if_eq (tgt := 23) hx hb dX3_between_11 (by decide) (fun hc => ?_) (fun hc => ?_)
  · have h := h.1 hc
    refine lv_aload_n hx hb dX3_between_23 rfl (lv_at hl 1 rfl) ?_
    refine x_get (ci := 3) (CN := RX3) (T := TX3) (N := 11) E in_X3 hH 0 wC_g0 rfl 5 (by decide) kf_X3_25 rfl dX3_between_24 ?_
    refine lv_iload_n hx hb dX3_between_27 rfl (lv_at hl 3 rfl) ?_
    refine lv_iload_n hx hb dX3_between_28 rfl (lv_at hl 4 rfl) ?_
    refine lv_iload hx hb dX3_between_29 (lv_at hl 5 rfl) ?_
    refine lv_iload hx hb dX3_between_31 (lv_at hl 6 rfl) ?_
    refine x_ci (x_runVN (As := [.int x2, .int x3, .int x4, .int x5]) (rest := []) E (c_X0_countWithin h) yk_X0_countWithin yi_X0_countWithin kmn_X3_153 ⟨Nat.le_of_ble_eq_true rfl, Nat.le_of_ble_eq_true rfl⟩ ⟨Nat.le_of_ble_eq_true rfl, Nat.le_of_ble_eq_true rfl⟩ hH (va_recv E.2.2.2.2.2.1 hH.1 (ci := 0) (q0 := 4) rfl wC_g4) hl.1 rfl rfl (lv_room (Nat.le_of_ble_eq_true rfl)) dX3_between_33) hH (fun r4 C3 H locs h hH => ?_)
    exact x_iret E hH h dX3_between_36
  · have h := h.2 hc
    refine lv_aload_n hx hb dX3_between_14 rfl (lv_at hl 1 rfl) ?_
    refine lv_iload hx hb dX3_between_15 (lv_at hl 0 rfl) ?_
    refine x_ci (x_runV (As := [.int r2]) (rest := []) E (c_X3_told h) yk_X3_told yi_X3_told km_X3_56 ⟨Nat.le_of_ble_eq_true rfl, Nat.le_of_ble_eq_true rfl⟩ ⟨Nat.le_of_ble_eq_true rfl, Nat.le_of_ble_eq_true rfl⟩ hH (va_recv E.2.2.2.2.2.1 hH.1 (ci := 3) (q0 := 0) rfl wC_g0) hl.1 rfl rfl (lv_room (Nat.le_of_ble_eq_true rfl)) dX3_between_17) hH (fun r6 C5 H locs h hH => ?_)
    refine lv_goto (tgt := 36) hx hb dX3_between_20 (by decide) ?_
    exact x_iret E hH h dX3_between_36
set_option maxHeartbeats 4000000 in
set_option maxRecDepth 100000 in
theorem c_X3_next {l : Launch} {D : va_G} {cI cS cO : ClassId} {a ad : Nat → Nat} {C : CS} {x1 : Int32} {x2 : Int32} {x3 : Int32} {x4 : Int32} {post : Int32 → CS → Prop} (h : w_X3_next post C x1 x2 x3 x4) : MetX l D (tyW cI cS cO) yX3_next cX3_next 6 (some .int) 4 0 0 [.ref (a 0), .int x1, .int x2, .int x3, .int x4] (wC cI cO a ad C) (QI D (wC cI cO a ad) post) := by
  refine x_ent (by decide) (Nat.le_of_ble_eq_true rfl) ?_
  intro p e s m below meth c ls E _ hH hl
  have hx := E.1
  have hb := E.2.1
  generalize va_A (wC cI cO a ad C) s.heap.size = A at hH ⊢
  have hl : lv_has ls 6 [(0, .ref (a 0)), (1, .int x1), (2, .int x2), (3, .int x3), (4, .int x4)] := hl
  unfold w_X3_next at h
  refine lv_aload_n hx hb dX3_next_0 rfl (lv_at hl 0 rfl) ?_
  refine lv_iload_n hx hb dX3_next_1 rfl (lv_at hl 1 rfl) ?_
  refine lv_iload_n hx hb dX3_next_2 rfl (lv_at hl 2 rfl) ?_
  refine lv_iload_n hx hb dX3_next_3 rfl (lv_at hl 3 rfl) ?_
  refine x_ci (x_runV (As := [.int x1, .int x2, .int x3]) (rest := []) E (c_X3_layOutSpan h) yk_X3_layOutSpan yi_X3_layOutSpan km_X3_140 ⟨Nat.le_of_ble_eq_true rfl, Nat.le_of_ble_eq_true rfl⟩ ⟨Nat.le_of_ble_eq_true rfl, Nat.le_of_ble_eq_true rfl⟩ hH (va_recv E.2.2.2.2.2.1 hH.1 (ci := 3) (q0 := 0) rfl wC_g0) hl.1 rfl rfl (lv_room (Nat.le_of_ble_eq_true rfl)) dX3_next_4) hH (fun r2 C1 H locs h hH => ?_)
  refine lv_istore (lv' := [(5, .int r2), (0, .ref (a 0)), (1, .int x1), (2, .int x2), (3, .int x3), (4, .int x4)]) hx hb dX3_next_7 hl (by decide) rfl (fun ls hl => ?_)
  refine lv_iload hx hb dX3_next_9 (lv_at hl 0 rfl) ?_
  refine lv_if_eq (tgt := 23) hx hb dX3_next_11 (by decide) (fun hc => ?_) (fun hc => ?_)
  · have h := h.1 hc
    refine lv_aload_n hx hb dX3_next_23 rfl (lv_at hl 1 rfl) ?_
    refine lv_aload_n hx hb dX3_next_24 rfl (lv_at hl 1 rfl) ?_
    refine x_get (ci := 3) (CN := RX3) (T := TX3) (N := 11) E in_X3 hH 0 wC_g0 rfl 5 (by decide) kf_X3_25 rfl dX3_next_25 ?_
    refine lv_iload_n hx hb dX3_next_28 rfl (lv_at hl 3 rfl) ?_
    refine lv_iload_n hx hb dX3_next_29 rfl (lv_at hl 4 rfl) ?_
    refine lv_iload hx hb dX3_next_30 (lv_at hl 5 rfl) ?_
    refine x_ci (x_runVN (As := [.int x2, .int x3, .int x4]) (rest := [.ref (a 0)]) E (c_X0_leastFrom h) yk_X0_leastFrom yi_X0_leastFrom kmn_X3_124 ⟨Nat.le_of_ble_eq_true rfl, Nat.le_of_ble_eq_true rfl⟩ ⟨Nat.le_of_ble_eq_true rfl, Nat.le_of_ble_eq_true rfl⟩ hH (va_recv E.2.2.2.2.2.1 hH.1 (ci := 0) (q0 := 4) rfl wC_g4) hl.1 rfl rfl (lv_room (Nat.le_of_ble_eq_true rfl)) dX3_next_32) hH (fun r4 C3 H locs h hH => ?_)
    refine x_ci (x_runV (As := [.int r4]) (rest := []) E (c_X3_foundOrNone h) yk_X3_foundOrNone yi_X3_foundOrNone km_X3_156 ⟨Nat.le_of_ble_eq_true rfl, Nat.le_of_ble_eq_true rfl⟩ ⟨Nat.le_of_ble_eq_true rfl, Nat.le_of_ble_eq_true rfl⟩ hH (va_recv E.2.2.2.2.2.1 hH.1 (ci := 3) (q0 := 0) rfl wC_g0) hl.1 rfl rfl (lv_room (Nat.le_of_ble_eq_true rfl)) dX3_next_35) hH (fun r6 C5 H locs h hH => ?_)
    exact x_iret E hH h dX3_next_38
  · have h := h.2 hc
    refine lv_aload_n hx hb dX3_next_14 rfl (lv_at hl 1 rfl) ?_
    refine lv_iload hx hb dX3_next_15 (lv_at hl 0 rfl) ?_
    refine x_ci (x_runV (As := [.int r2]) (rest := []) E (c_X3_told h) yk_X3_told yi_X3_told km_X3_56 ⟨Nat.le_of_ble_eq_true rfl, Nat.le_of_ble_eq_true rfl⟩ ⟨Nat.le_of_ble_eq_true rfl, Nat.le_of_ble_eq_true rfl⟩ hH (va_recv E.2.2.2.2.2.1 hH.1 (ci := 3) (q0 := 0) rfl wC_g0) hl.1 rfl rfl (lv_room (Nat.le_of_ble_eq_true rfl)) dX3_next_17) hH (fun r8 C7 H locs h hH => ?_)
    refine lv_goto (tgt := 38) hx hb dX3_next_20 (by decide) ?_
    exact x_iret E hH h dX3_next_38
set_option maxHeartbeats 4000000 in
set_option maxRecDepth 100000 in
theorem c_X3_prior {l : Launch} {D : va_G} {cI cS cO : ClassId} {a ad : Nat → Nat} {C : CS} {x1 : Int32} {x2 : Int32} {x3 : Int32} {x4 : Int32} {post : Int32 → CS → Prop} (h : w_X3_prior post C x1 x2 x3 x4) : MetX l D (tyW cI cS cO) yX3_prior cX3_prior 6 (some .int) 4 0 0 [.ref (a 0), .int x1, .int x2, .int x3, .int x4] (wC cI cO a ad C) (QI D (wC cI cO a ad) post) := by
  refine x_ent (by decide) (Nat.le_of_ble_eq_true rfl) ?_
  intro p e s m below meth c ls E _ hH hl
  have hx := E.1
  have hb := E.2.1
  generalize va_A (wC cI cO a ad C) s.heap.size = A at hH ⊢
  have hl : lv_has ls 6 [(0, .ref (a 0)), (1, .int x1), (2, .int x2), (3, .int x3), (4, .int x4)] := hl
  unfold w_X3_prior at h
  refine lv_aload_n hx hb dX3_prior_0 rfl (lv_at hl 0 rfl) ?_
  refine lv_iload_n hx hb dX3_prior_1 rfl (lv_at hl 1 rfl) ?_
  refine lv_iload_n hx hb dX3_prior_2 rfl (lv_at hl 2 rfl) ?_
  refine lv_iload_n hx hb dX3_prior_3 rfl (lv_at hl 3 rfl) ?_
  refine x_ci (x_runV (As := [.int x1, .int x2, .int x3]) (rest := []) E (c_X3_layOutSpan h) yk_X3_layOutSpan yi_X3_layOutSpan km_X3_140 ⟨Nat.le_of_ble_eq_true rfl, Nat.le_of_ble_eq_true rfl⟩ ⟨Nat.le_of_ble_eq_true rfl, Nat.le_of_ble_eq_true rfl⟩ hH (va_recv E.2.2.2.2.2.1 hH.1 (ci := 3) (q0 := 0) rfl wC_g0) hl.1 rfl rfl (lv_room (Nat.le_of_ble_eq_true rfl)) dX3_prior_4) hH (fun r2 C1 H locs h hH => ?_)
  refine lv_istore (lv' := [(5, .int r2), (0, .ref (a 0)), (1, .int x1), (2, .int x2), (3, .int x3), (4, .int x4)]) hx hb dX3_prior_7 hl (by decide) rfl (fun ls hl => ?_)
  refine lv_iload hx hb dX3_prior_9 (lv_at hl 0 rfl) ?_
  refine lv_if_eq (tgt := 23) hx hb dX3_prior_11 (by decide) (fun hc => ?_) (fun hc => ?_)
  · have h := h.1 hc
    refine lv_aload_n hx hb dX3_prior_23 rfl (lv_at hl 1 rfl) ?_
    refine lv_aload_n hx hb dX3_prior_24 rfl (lv_at hl 1 rfl) ?_
    refine x_get (ci := 3) (CN := RX3) (T := TX3) (N := 11) E in_X3 hH 0 wC_g0 rfl 5 (by decide) kf_X3_25 rfl dX3_prior_25 ?_
    refine lv_iload_n hx hb dX3_prior_28 rfl (lv_at hl 3 rfl) ?_
    refine lv_iload_n hx hb dX3_prior_29 rfl (lv_at hl 4 rfl) ?_
    refine lv_iload hx hb dX3_prior_30 (lv_at hl 5 rfl) ?_
    refine x_ci (x_runVN (As := [.int x2, .int x3, .int x4]) (rest := [.ref (a 0)]) E (c_X0_greatestTo h) yk_X0_greatestTo yi_X0_greatestTo kmn_X3_159 ⟨Nat.le_of_ble_eq_true rfl, Nat.le_of_ble_eq_true rfl⟩ ⟨Nat.le_of_ble_eq_true rfl, Nat.le_of_ble_eq_true rfl⟩ hH (va_recv E.2.2.2.2.2.1 hH.1 (ci := 0) (q0 := 4) rfl wC_g4) hl.1 rfl rfl (lv_room (Nat.le_of_ble_eq_true rfl)) dX3_prior_32) hH (fun r4 C3 H locs h hH => ?_)
    refine x_ci (x_runV (As := [.int r4]) (rest := []) E (c_X3_foundOrNone h) yk_X3_foundOrNone yi_X3_foundOrNone km_X3_156 ⟨Nat.le_of_ble_eq_true rfl, Nat.le_of_ble_eq_true rfl⟩ ⟨Nat.le_of_ble_eq_true rfl, Nat.le_of_ble_eq_true rfl⟩ hH (va_recv E.2.2.2.2.2.1 hH.1 (ci := 3) (q0 := 0) rfl wC_g0) hl.1 rfl rfl (lv_room (Nat.le_of_ble_eq_true rfl)) dX3_prior_35) hH (fun r6 C5 H locs h hH => ?_)
    exact x_iret E hH h dX3_prior_38
  · have h := h.2 hc
    refine lv_aload_n hx hb dX3_prior_14 rfl (lv_at hl 1 rfl) ?_
    refine lv_iload hx hb dX3_prior_15 (lv_at hl 0 rfl) ?_
    refine x_ci (x_runV (As := [.int r2]) (rest := []) E (c_X3_told h) yk_X3_told yi_X3_told km_X3_56 ⟨Nat.le_of_ble_eq_true rfl, Nat.le_of_ble_eq_true rfl⟩ ⟨Nat.le_of_ble_eq_true rfl, Nat.le_of_ble_eq_true rfl⟩ hH (va_recv E.2.2.2.2.2.1 hH.1 (ci := 3) (q0 := 0) rfl wC_g0) hl.1 rfl rfl (lv_room (Nat.le_of_ble_eq_true rfl)) dX3_prior_17) hH (fun r8 C7 H locs h hH => ?_)
    refine lv_goto (tgt := 38) hx hb dX3_prior_20 (by decide) ?_
    exact x_iret E hH h dX3_prior_38
set_option maxHeartbeats 4000000 in
set_option maxRecDepth 100000 in
theorem k_X3_median_23 {post : Int32 → CS → Prop} (E : Cx p s m args meth c cX3_median 5 RX3 (some .int) D (tyW cI cS cO))  {C : CS} {x1 : Int32} {x2 : Int32} {x3 : Int32} {x4 : Int32} {H : Heap} {locs : List Loc} {ls : Array Slot} (hH : HX D (wC cI cO a ad C) A s.heap H locs) (hl : lv_has ls 5 [(0, .ref (a 0)), (1, .int x1), (2, .int x2), (3, .int x3), (4, .int x4)]) (h : w_X3_median_23 post C x1 x2 x3 x4) : W p l e (rmA 4 0 0) s m args below meth c H locs 0 0 (MQ below ((QI D (wC cI cO a ad) post) A) args s 0 0 A) (F0 m 23 ls []) := by
  have hx := E.1
  have hb := E.2.1
  unfold w_X3_median_23 at h
  refine lv_iload hx hb dX3_median_23 (lv_at hl 4 rfl) ?_
  refine lv_if_eq (tgt := 37) hx hb dX3_median_25 (by decide) (fun hc => ?_) (fun hc => ?_)
  · have h := h.1 hc
    refine lv_aload_n hx hb dX3_median_37 rfl (lv_at hl 0 rfl) ?_
    refine lv_iload_n hx hb dX3_median_38 rfl (lv_at hl 2 rfl) ?_
    refine lv_iload_n hx hb dX3_median_39 rfl (lv_at hl 3 rfl) ?_
    refine lv_iload_n hx hb dX3_median_40 rfl (lv_at hl 3 rfl) ?_
    refine lv_iload_n hx hb dX3_median_41 rfl (lv_at hl 2 rfl) ?_
    refine lv_isub hx hb dX3_median_42 ?_
    refine lv_iconst (v := (1 : Int32)) hx hb dX3_median_43 (by decide) ?_
    refine lv_isub hx hb dX3_median_44 ?_
    refine lv_iconst (v := (2 : Int32)) hx hb dX3_median_45 (by decide) ?_
    refine lv_idiv hx hb dX3_median_46 (by decide) ?_
    refine lv_aload_n hx hb dX3_median_47 rfl (lv_at hl 0 rfl) ?_
    refine lv_iload_n hx hb dX3_median_48 rfl (lv_at hl 1 rfl) ?_
    refine x_ci (x_runV (As := [.int x1]) (rest := [.int (((x3 - x2) - (1 : Int32)) / (2 : Int32)), .int x3, .int x2, .ref (a 0)]) E (c_X3_topBitOf h) yk_X3_topBitOf yi_X3_topBitOf km_X3_143 ⟨Nat.le_of_ble_eq_true rfl, Nat.le_of_ble_eq_true rfl⟩ ⟨Nat.le_of_ble_eq_true rfl, Nat.le_of_ble_eq_true rfl⟩ hH (va_recv E.2.2.2.2.2.1 hH.1 (ci := 3) (q0 := 0) rfl wC_g0) hl.1 rfl rfl (lv_room (Nat.le_of_ble_eq_true rfl)) dX3_median_49) hH (fun r4 C3 H locs h hH => ?_)
    refine x_ci (x_runV (As := [.int x2, .int x3, .int (((x3 - x2) - (1 : Int32)) / (2 : Int32)), .int r4]) (rest := []) E (c_X3_goDown h) yk_X3_goDown yi_X3_goDown km_X3_146 ⟨Nat.le_of_ble_eq_true rfl, Nat.le_of_ble_eq_true rfl⟩ ⟨Nat.le_of_ble_eq_true rfl, Nat.le_of_ble_eq_true rfl⟩ hH (va_recv E.2.2.2.2.2.1 hH.1 (ci := 3) (q0 := 0) rfl wC_g0) hl.1 rfl rfl (lv_room (Nat.le_of_ble_eq_true rfl)) dX3_median_52) hH (fun r6 C5 H locs h hH => ?_)
    exact x_iret E hH h dX3_median_55
  · have h := h.2 hc
    refine lv_aload_n hx hb dX3_median_28 rfl (lv_at hl 0 rfl) ?_
    refine lv_iload hx hb dX3_median_29 (lv_at hl 4 rfl) ?_
    refine x_ci (x_runV (As := [.int x4]) (rest := []) E (c_X3_told h) yk_X3_told yi_X3_told km_X3_56 ⟨Nat.le_of_ble_eq_true rfl, Nat.le_of_ble_eq_true rfl⟩ ⟨Nat.le_of_ble_eq_true rfl, Nat.le_of_ble_eq_true rfl⟩ hH (va_recv E.2.2.2.2.2.1 hH.1 (ci := 3) (q0 := 0) rfl wC_g0) hl.1 rfl rfl (lv_room (Nat.le_of_ble_eq_true rfl)) dX3_median_31) hH (fun r8 C7 H locs h hH => ?_)
    refine lv_goto (tgt := 55) hx hb dX3_median_34 (by decide) ?_
    exact x_iret E hH h dX3_median_55
set_option maxHeartbeats 4000000 in
set_option maxRecDepth 100000 in
theorem c_X3_median {l : Launch} {D : va_G} {cI cS cO : ClassId} {a ad : Nat → Nat} {C : CS} {x1 : Int32} {x2 : Int32} {x3 : Int32} {post : Int32 → CS → Prop} (h : w_X3_median post C x1 x2 x3) : MetX l D (tyW cI cS cO) yX3_median cX3_median 5 (some .int) 4 0 0 [.ref (a 0), .int x1, .int x2, .int x3] (wC cI cO a ad C) (QI D (wC cI cO a ad) post) := by
  refine x_ent (by decide) (Nat.le_of_ble_eq_true rfl) ?_
  intro p e s m below meth c ls E _ hH hl
  have hx := E.1
  have hb := E.2.1
  generalize va_A (wC cI cO a ad C) s.heap.size = A at hH ⊢
  have hl : lv_has ls 5 [(0, .ref (a 0)), (1, .int x1), (2, .int x2), (3, .int x3)] := hl
  unfold w_X3_median at h
  refine lv_aload_n hx hb dX3_median_0 rfl (lv_at hl 0 rfl) ?_
  refine lv_iload_n hx hb dX3_median_1 rfl (lv_at hl 1 rfl) ?_
  refine lv_iload_n hx hb dX3_median_2 rfl (lv_at hl 2 rfl) ?_
  refine lv_iload_n hx hb dX3_median_3 rfl (lv_at hl 3 rfl) ?_
  refine x_ci (x_runV (As := [.int x1, .int x2, .int x3]) (rest := []) E (c_X3_layOutSpan h) yk_X3_layOutSpan yi_X3_layOutSpan km_X3_140 ⟨Nat.le_of_ble_eq_true rfl, Nat.le_of_ble_eq_true rfl⟩ ⟨Nat.le_of_ble_eq_true rfl, Nat.le_of_ble_eq_true rfl⟩ hH (va_recv E.2.2.2.2.2.1 hH.1 (ci := 3) (q0 := 0) rfl wC_g0) hl.1 rfl rfl (lv_room (Nat.le_of_ble_eq_true rfl)) dX3_median_4) hH (fun r2 C1 H locs h hH => ?_)
  refine lv_istore (lv' := [(4, .int r2), (0, .ref (a 0)), (1, .int x1), (2, .int x2), (3, .int x3)]) hx hb dX3_median_7 hl (by decide) rfl (fun ls hl => ?_)
  refine lv_iload hx hb dX3_median_9 (lv_at hl 0 rfl) ?_
  refine lv_if_ne (tgt := 23) hx hb dX3_median_11 (by decide) (fun hc => ?_) (fun hc => ?_)
  · have h := h.1 hc
    exact k_X3_median_23 E  hH (lv_sub hl [1, 2, 3, 4, 0] rfl) h
  · have h := h.2 hc
    refine lv_iload_n hx hb dX3_median_14 rfl (lv_at hl 3 rfl) ?_
    refine lv_iload_n hx hb dX3_median_15 rfl (lv_at hl 4 rfl) ?_
    refine lv_icmp_ne (tgt := 23) hx hb dX3_median_16 (by decide) (fun hc => ?_) (fun hc => ?_)
    · have h := h.1 hc
      exact k_X3_median_23 E  hH (lv_sub hl [1, 2, 3, 4, 0] rfl) h
    · have h := h.2 hc
      refine lv_bipush (v := (-6 : Int32)) hx hb dX3_median_19 (by decide) ?_
      refine lv_istore (lv' := [(4, .int (-6 : Int32)), (0, .ref (a 0)), (1, .int x1), (2, .int x2), (3, .int x3)]) hx hb dX3_median_21 hl (by decide) rfl (fun ls hl => ?_)
      exact k_X3_median_23 E  hH (lv_sub hl [1, 2, 3, 4, 0] rfl) h
end WALKS_D1
