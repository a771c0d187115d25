section WALKS_D0
variable {p : Program} {l : Launch} {e : Env} {s : State} {m : MethodId} {args : Array Value} {below : List Frame} {meth : Method} {c : Code} {D : va_G} {cI cS cO : ClassId} {a ad : Nat → Nat} {A : Nat → Prop}
set_option maxHeartbeats 4000000 in
set_option maxRecDepth 100000 in
theorem k_X3_push_67 {post : Int32 → CS → Prop} (E : Cx p s m args meth c cX3_push 8 RX3 (some .int) D (tyW cI cS cO))  {ad : Nat → Nat} {C : CS}  {H : Heap} {locs : List Loc} {ls : Array Slot} (hH : HX D (wC cI cO a ad C) A s.heap H locs) (hl : lv_has ls 8 [(0, .ref (a 0))]) (h : w_X3_push_67 post C ) : W p l e (rmA 4 3 809) s m args below meth c H locs 0 0 (MQ below ((QI D (fun u : CS × (Nat → Nat) => wC cI cO a u.2 u.1) (fun r u => post r u.1)) A) args s 3 809 A) (F0 m 67 ls []) := by
  have hx := E.1
  have hb := E.2.1
  unfold w_X3_push_67 at h
  refine lv_aload_n hx hb dX3_push_67 rfl (lv_at hl 0 rfl) ?_
  refine lv_bipush (v := (-5 : Int32)) hx hb dX3_push_68 (by decide) ?_
  refine x_ci (x_runV (As := [.int (-5 : Int32)]) (rest := []) E (c_X3_told h) yk_X3_told yi_X3_told km_X3_56 ⟨Nat.le_of_ble_eq_true rfl, Nat.le_of_ble_eq_true rfl⟩ ⟨Nat.le_of_ble_eq_true rfl, Nat.le_of_ble_eq_true rfl⟩ hH (va_recv E.2.2.2.2.2.1 hH.1 (ci := 3) (q0 := 0) rfl wC_g0) hl.1 rfl rfl (lv_room (Nat.le_of_ble_eq_true rfl)) dX3_push_70) hH (fun r29 C28 H locs h hH => ?_)
  refine W.widen (k := 3) (n := 809) (by decide) (by decide) ?_
  exact x_iret (u := (C28, ad)) E hH h dX3_push_73
set_option maxHeartbeats 4000000 in
set_option maxRecDepth 100000 in
theorem k_X3_push_34 {post : Int32 → CS → Prop} (E : Cx p s m args meth c cX3_push 8 RX3 (some .int) D (tyW cI cS cO))  {ad : Nat → Nat} {C : CS}  {H : Heap} {locs : List Loc} {ls : Array Slot} (hH : HX D (wC cI cO a ad C) A s.heap H locs) (hl : lv_has ls 8 [(0, .ref (a 0))]) (h : w_X3_push_34 post C ) : W p l e (rmA 4 3 809) s m args below meth c H locs 0 0 (MQ below ((QI D (fun u : CS × (Nat → Nat) => wC cI cO a u.2 u.1) (fun r u => post r u.1)) A) args s 3 809 A) (F0 m 34 ls []) := by
  have hx := E.1
  have hb := E.2.1
  unfold w_X3_push_34 at h
  refine lv_aload_n hx hb dX3_push_34 rfl (lv_at hl 0 rfl) ?_
  refine lv_iconst (v := (-1 : Int32)) hx hb dX3_push_35 (by decide) ?_
  refine x_ci (x_runV (As := [.int (-1 : Int32)]) (rest := []) E (c_X3_told h) yk_X3_told yi_X3_told km_X3_56 ⟨Nat.le_of_ble_eq_true rfl, Nat.le_of_ble_eq_true rfl⟩ ⟨Nat.le_of_ble_eq_true rfl, Nat.le_of_ble_eq_true rfl⟩ hH (va_recv E.2.2.2.2.2.1 hH.1 (ci := 3) (q0 := 0) rfl wC_g0) hl.1 rfl rfl (lv_room (Nat.le_of_ble_eq_true rfl)) dX3_push_36) hH (fun r27 C26 H locs h hH => ?_)
  refine W.widen (k := 3) (n := 809) (by decide) (by decide) ?_
  exact x_iret (u := (C26, ad)) E hH h dX3_push_39
set_option maxHeartbeats 4000000 in
set_option maxRecDepth 100000 in
theorem c_X3_push {l : Launch} {D : va_G} {cI cS cO : ClassId} {a ad : Nat → Nat} {C : CS} {x1 : Int32} {x2 : Int32} {x3 : Int32} {x4 : Int32} {post : Int32 → CS → Prop} (h : w_X3_push post C x1 x2 x3 x4) : MetX l D (tyW cI cS cO) yX3_push cX3_push 8 (some .int) 4 3 809 [.ref (a 0), .int x1, .int x2, .int x3, .int x4] (wC cI cO a ad C) (QI D (fun u : CS × (Nat → Nat) => wC cI cO a u.2 u.1) (fun r u => post r u.1)) := by
  refine x_ent (by decide) (Nat.le_of_ble_eq_true rfl) ?_
  intro p e s m below meth c ls E _ hH hl
  have hx := E.1
  have hb := E.2.1
  generalize va_A (wC cI cO a ad C) s.heap.size = A at hH ⊢
  have hl : lv_has ls 8 [(0, .ref (a 0)), (1, .int x1), (2, .int x2), (3, .int x3), (4, .int x4)] := hl
  unfold w_X3_push at h
  refine lv_aload_n hx hb dX3_push_0 rfl (lv_at hl 0 rfl) ?_
  refine lv_iload_n hx hb dX3_push_1 rfl (lv_at hl 1 rfl) ?_
  refine x_ci (x_runV (As := [.int x1]) (rest := []) E (c_X3_findingOfGrown h) yk_X3_findingOfGrown yi_X3_findingOfGrown km_X3_52 ⟨Nat.le_of_ble_eq_true rfl, Nat.le_of_ble_eq_true rfl⟩ ⟨Nat.le_of_ble_eq_true rfl, Nat.le_of_ble_eq_true rfl⟩ hH (va_recv E.2.2.2.2.2.1 hH.1 (ci := 3) (q0 := 0) rfl wC_g0) hl.1 rfl rfl (lv_room (Nat.le_of_ble_eq_true rfl)) dX3_push_2) hH (fun r2 C1 H locs h hH => ?_)
  refine lv_istore (lv' := [(5, .int r2), (0, .ref (a 0)), (1, .int x1), (2, .int x2), (3, .int x3), (4, .int x4)]) hx hb dX3_push_5 hl (by decide) rfl (fun ls hl => ?_)
  refine lv_iload hx hb dX3_push_7 (lv_at hl 0 rfl) ?_
  refine lv_if_eq (tgt := 19) hx hb dX3_push_9 (by decide) (fun hc => ?_) (fun hc => ?_)
  · have h := h.1 hc
    refine lv_iload_n hx hb dX3_push_19 rfl (lv_at hl 3 rfl) ?_
    refine x_ci (x_runS (As := [.int x2]) (rest := []) E (c_X3_isValue h) yk_X3_isValue yi_X3_isValue km_X3_59 ⟨Nat.le_of_ble_eq_true rfl, Nat.le_of_ble_eq_true rfl⟩ ⟨Nat.le_of_ble_eq_true rfl, Nat.le_of_ble_eq_true rfl⟩ hH  hl.1 rfl rfl (lv_room (Nat.le_of_ble_eq_true rfl)) dX3_push_20) hH (fun r4 C3 H locs h hH => ?_)
    refine lv_if_eq (tgt := 34) hx hb dX3_push_23 (by decide) (fun hc => ?_) (fun hc => ?_)
    · have h := h.1 hc
      exact k_X3_push_34 E  hH (lv_sub hl [1] rfl) h
    · have h := h.2 hc
      refine lv_iload hx hb dX3_push_26 (lv_at hl 5 rfl) ?_
      refine x_ci (x_runS (As := [.int x4]) (rest := []) E (c_X3_isShelfPlace h) yk_X3_isShelfPlace yi_X3_isShelfPlace km_X3_63 ⟨Nat.le_of_ble_eq_true rfl, Nat.le_of_ble_eq_true rfl⟩ ⟨Nat.le_of_ble_eq_true rfl, Nat.le_of_ble_eq_true rfl⟩ hH  hl.1 rfl rfl (lv_room (Nat.le_of_ble_eq_true rfl)) dX3_push_28) hH (fun r6 C5 H locs h hH => ?_)
      refine lv_if_ne (tgt := 40) hx hb dX3_push_31 (by decide) (fun hc => ?_) (fun hc => ?_)
      · have h := h.1 hc
        refine lv_aload_n hx hb dX3_push_40 rfl (lv_at hl 1 rfl) ?_
        refine x_get (ci := 3) (CN := RX3) (T := TX3) (N := 11) E in_X3 hH 0 wC_g0 rfl 3 (by decide) kf_X3_15 rfl dX3_push_41 ?_
        refine lv_iload_n hx hb dX3_push_44 rfl (lv_at hl 2 rfl) ?_
        obtain ⟨hi8, h⟩ := h
        refine x_aald E hH 2 2 wC_g2 rfl hi8 dX3_push_45 ?_
        refine q_top (ad := ad) (x := co C5 2 (Int32.toNatClampNeg x1)) (fun w7 ew7 => ?_)
        have h := h w7 ew7
        refine q_astore (i := 6) (lv' := [(5, .int r2), (0, .ref (a 0)), (1, .int x1), (2, .int x2), (3, .int x3), (4, .int x4)]) hx hb dX3_push_46 hl (by decide) (fun _ => rfl) (fun ls hl => ?_)
        refine q_aload hx hb dX3_push_48 (lv_at hl 0 rfl) ?_
        obtain ⟨v9, rfl, hv10, h⟩ := h
        refine x_getN (ci := 2) (CN := RX2) (T := TX2) (N := 9) E in_X2 hH (17 + 3 * v9) (wC_v0 hv10) rfl 3 (by decide) kfn_X3_66 rfl dX3_push_50 ?_
        refine lv_sipush (v := (400 : Int32)) hx hb dX3_push_53 (by decide) ?_
        refine lv_icmp_ge (tgt := 67) hx hb dX3_push_56 (by decide) (fun hc => ?_) (fun hc => ?_)
        · have h := h.1 hc
          exact k_X3_push_67 E  hH (lv_sub hl [2] rfl) h
        · have h := h.2 hc
          refine lv_aload_n hx hb dX3_push_59 rfl (lv_at hl 2 rfl) ?_
          refine lv_iconst (v := (1 : Int32)) hx hb dX3_push_60 (by decide) ?_
          refine x_ci (x_runV (As := [.int (1 : Int32)]) (rest := []) E (c_X3_hasRoomFor h) yk_X3_hasRoomFor yi_X3_hasRoomFor km_X3_69 ⟨Nat.le_of_ble_eq_true rfl, Nat.le_of_ble_eq_true rfl⟩ ⟨Nat.le_of_ble_eq_true rfl, Nat.le_of_ble_eq_true rfl⟩ hH (va_recv E.2.2.2.2.2.1 hH.1 (ci := 3) (q0 := 0) rfl wC_g0) hl.1 rfl rfl (lv_room (Nat.le_of_ble_eq_true rfl)) dX3_push_61) hH (fun r12 C11 H locs h hH => ?_)
          refine lv_if_ne (tgt := 74) hx hb dX3_push_64 (by decide) (fun hc => ?_) (fun hc => ?_)
          · have h := h.1 hc
            refine lv_aload_n hx hb dX3_push_74 rfl (lv_at hl 2 rfl) ?_
            refine lv_aload hx hb dX3_push_75 (lv_at hl 0 rfl) ?_
            refine lv_aload hx hb dX3_push_77 (lv_at hl 0 rfl) ?_
            obtain ⟨hv13, h⟩ := h
            refine x_getN (ci := 2) (CN := RX2) (T := TX2) (N := 9) E in_X2 hH (17 + 3 * v9) (wC_v0 hv13) rfl 3 (by decide) kfn_X3_66 rfl dX3_push_79 ?_
            refine lv_iconst (v := (1 : Int32)) hx hb dX3_push_82 (by decide) ?_
            refine x_cr (x_runV (As := [.ref (ad (3 * v9)), .int (cf C11 v9 3), .int (1 : Int32)]) (rest := []) E (c_X3_grow h) yk_X3_grow yi_X3_grow km_X3_72 ⟨Nat.le_of_ble_eq_true rfl, Nat.le_of_ble_eq_true rfl⟩ ⟨Nat.le_of_ble_eq_true rfl, Nat.le_of_ble_eq_true rfl⟩ hH (va_recv E.2.2.2.2.2.1 hH.1 (ci := 3) (q0 := 0) rfl wC_g0) hl.1 rfl rfl (lv_room (Nat.le_of_ble_eq_true rfl)) dX3_push_83) hH (fun u16 H locs h hH => ?_)
            obtain ⟨C14, ad17⟩ := u16
            have hH : HX D (wC cI cO a ad17 C14) A s.heap H locs := hH
            have hl := lv_sub hl [1, 2, 3, 4, 5, 6] rfl
            have h : _ := h
            refine lv_astore (lv' := [(7, .ref (ad17 (3 * (cn C11)))), (5, .int r2), (0, .ref (a 0)), (1, .int x1), (2, .int x2), (3, .int x3), (4, .int x4)]) hx hb dX3_push_86 hl (by decide) rfl (fun ls hl => ?_)
            refine lv_aload hx hb dX3_push_88 (lv_at hl 0 rfl) ?_
            refine lv_iconst (v := (0 : Int32)) hx hb dX3_push_90 (by decide) ?_
            refine lv_iload_n hx hb dX3_push_91 rfl (lv_at hl 4 rfl) ?_
            refine lv_iload_n hx hb dX3_push_92 rfl (lv_at hl 5 rfl) ?_
            obtain ⟨hv18, h⟩ := h
            refine x_cv (x_runVN (As := [.int (0 : Int32), .int x2, .int x3]) (rest := []) E (c_X2_writeOwn h) yk_X2_writeOwn yi_X2_writeOwn kmn_X3_76 ⟨Nat.le_of_ble_eq_true rfl, Nat.le_of_ble_eq_true rfl⟩ ⟨Nat.le_of_ble_eq_true rfl, Nat.le_of_ble_eq_true rfl⟩ hH (va_recv E.2.2.2.2.2.1 hH.1 (ci := 2) (q0 := 17 + 3 * (cn C11)) rfl (wC_v0 hv18)) hl.1 rfl rfl (lv_room (Nat.le_of_ble_eq_true rfl)) dX3_push_93) hH (fun C19 H locs h hH => ?_)
            refine lv_aload_n hx hb dX3_push_96 rfl (lv_at hl 2 rfl) ?_
            refine lv_aload hx hb dX3_push_97 (lv_at hl 0 rfl) ?_
            refine lv_iload hx hb dX3_push_99 (lv_at hl 6 rfl) ?_
            obtain ⟨hv21, h⟩ := h
            refine x_ci (x_runV (As := [.ref (ad17 (3 * (cn C11))), .int x4]) (rest := []) E (c_X3_showGrown h) yk_X3_showGrown yi_X3_showGrown km_X3_80 ⟨Nat.le_of_ble_eq_true rfl, Nat.le_of_ble_eq_true rfl⟩ ⟨Nat.le_of_ble_eq_true rfl, Nat.le_of_ble_eq_true rfl⟩ hH (va_recv E.2.2.2.2.2.1 hH.1 (ci := 3) (q0 := 0) rfl wC_g0) hl.1 rfl rfl (lv_room (Nat.le_of_ble_eq_true rfl)) dX3_push_101) hH (fun r23 C22 H locs h hH => ?_)
            exact x_iret (u := (C22, ad17)) E hH h dX3_push_104
          · have h := h.2 hc
            exact k_X3_push_67 E  hH (lv_sub hl [2] rfl) h
      · have h := h.2 hc
        exact k_X3_push_34 E  hH (lv_sub hl [1] rfl) h
  · have h := h.2 hc
    refine lv_aload_n hx hb dX3_push_12 rfl (lv_at hl 1 rfl) ?_
    refine lv_iload hx hb dX3_push_13 (lv_at hl 0 rfl) ?_
    refine x_ci (x_runV (As := [.int r2]) (rest := []) E (c_X3_told h) yk_X3_told yi_X3_told km_X3_56 ⟨Nat.le_of_ble_eq_true rfl, Nat.le_of_ble_eq_true rfl⟩ ⟨Nat.le_of_ble_eq_true rfl, Nat.le_of_ble_eq_true rfl⟩ hH (va_recv E.2.2.2.2.2.1 hH.1 (ci := 3) (q0 := 0) rfl wC_g0) hl.1 rfl rfl (lv_room (Nat.le_of_ble_eq_true rfl)) dX3_push_15) hH (fun r25 C24 H locs h hH => ?_)
    refine W.widen (k := 3) (n := 809) (by decide) (by decide) ?_
    exact x_iret (u := (C24, ad)) E hH h dX3_push_18
set_option maxHeartbeats 4000000 in
set_option maxRecDepth 100000 in
theorem k_X3_cut_54 {post : Int32 → CS → Prop} (E : Cx p s m args meth c cX3_cut 6 RX3 (some .int) D (tyW cI cS cO))  {ad : Nat → Nat} {C : CS}  {H : Heap} {locs : List Loc} {ls : Array Slot} (hH : HX D (wC cI cO a ad C) A s.heap H locs) (hl : lv_has ls 6 [(0, .ref (a 0))]) (h : w_X3_cut_54 post C ) : W p l e (rmA 4 3 809) s m args below meth c H locs 0 0 (MQ below ((QI D (fun u : CS × (Nat → Nat) => wC cI cO a u.2 u.1) (fun r u => post r u.1)) A) args s 3 809 A) (F0 m 54 ls []) := by
  have hx := E.1
  have hb := E.2.1
  unfold w_X3_cut_54 at h
  refine lv_aload_n hx hb dX3_cut_54 rfl (lv_at hl 0 rfl) ?_
  refine lv_iconst (v := (-1 : Int32)) hx hb dX3_cut_55 (by decide) ?_
  refine x_ci (x_runV (As := [.int (-1 : Int32)]) (rest := []) E (c_X3_told h) yk_X3_told yi_X3_told km_X3_56 ⟨Nat.le_of_ble_eq_true rfl, Nat.le_of_ble_eq_true rfl⟩ ⟨Nat.le_of_ble_eq_true rfl, Nat.le_of_ble_eq_true rfl⟩ hH (va_recv E.2.2.2.2.2.1 hH.1 (ci := 3) (q0 := 0) rfl wC_g0) hl.1 rfl rfl (lv_room (Nat.le_of_ble_eq_true rfl)) dX3_cut_56) hH (fun r26 C25 H locs h hH => ?_)
  refine W.widen (k := 3) (n := 809) (by decide) (by decide) ?_
  exact x_iret (u := (C25, ad)) E hH h dX3_cut_59
set_option maxHeartbeats 4000000 in
set_option maxRecDepth 100000 in
theorem c_X3_cut {l : Launch} {D : va_G} {cI cS cO : ClassId} {a ad : Nat → Nat} {C : CS} {x1 : Int32} {x2 : Int32} {x3 : Int32} {post : Int32 → CS → Prop} (h : w_X3_cut post C x1 x2 x3) : MetX l D (tyW cI cS cO) yX3_cut cX3_cut 6 (some .int) 4 3 809 [.ref (a 0), .int x1, .int x2, .int x3] (wC cI cO a ad C) (QI D (fun u : CS × (Nat → Nat) => wC cI cO a u.2 u.1) (fun r u => post r u.1)) := by
  refine x_ent (by decide) (Nat.le_of_ble_eq_true rfl) ?_
  intro p e s m below meth c ls E _ hH hl
  have hx := E.1
  have hb := E.2.1
  generalize va_A (wC cI cO a ad C) s.heap.size = A at hH ⊢
  have hl : lv_has ls 6 [(0, .ref (a 0)), (1, .int x1), (2, .int x2), (3, .int x3)] := hl
  unfold w_X3_cut at h
  refine lv_aload_n hx hb dX3_cut_0 rfl (lv_at hl 0 rfl) ?_
  refine lv_iload_n hx hb dX3_cut_1 rfl (lv_at hl 1 rfl) ?_
  refine x_ci (x_runV (As := [.int x1]) (rest := []) E (c_X3_findingOfGrown h) yk_X3_findingOfGrown yi_X3_findingOfGrown km_X3_52 ⟨Nat.le_of_ble_eq_true rfl, Nat.le_of_ble_eq_true rfl⟩ ⟨Nat.le_of_ble_eq_true rfl, Nat.le_of_ble_eq_true rfl⟩ hH (va_recv E.2.2.2.2.2.1 hH.1 (ci := 3) (q0 := 0) rfl wC_g0) hl.1 rfl rfl (lv_room (Nat.le_of_ble_eq_true rfl)) dX3_cut_2) hH (fun r2 C1 H locs h hH => ?_)
  refine lv_istore (lv' := [(4, .int r2), (0, .ref (a 0)), (1, .int x1), (2, .int x2), (3, .int x3)]) hx hb dX3_cut_5 hl (by decide) rfl (fun ls hl => ?_)
  refine lv_iload hx hb dX3_cut_7 (lv_at hl 0 rfl) ?_
  refine lv_if_eq (tgt := 19) hx hb dX3_cut_9 (by decide) (fun hc => ?_) (fun hc => ?_)
  · have h := h.1 hc
    refine lv_iload_n hx hb dX3_cut_19 rfl (lv_at hl 3 rfl) ?_
    refine lv_if_ge (tgt := 30) hx hb dX3_cut_20 (by decide) (fun hc => ?_) (fun hc => ?_)
    · have h := h.1 hc
      refine lv_aload_n hx hb dX3_cut_30 rfl (lv_at hl 1 rfl) ?_
      refine x_get (ci := 3) (CN := RX3) (T := TX3) (N := 11) E in_X3 hH 0 wC_g0 rfl 3 (by decide) kf_X3_15 rfl dX3_cut_31 ?_
      refine lv_iload_n hx hb dX3_cut_34 rfl (lv_at hl 2 rfl) ?_
      obtain ⟨hi4, h⟩ := h
      refine x_aald E hH 2 2 wC_g2 rfl hi4 dX3_cut_35 ?_
      refine q_top (ad := ad) (x := co C1 2 (Int32.toNatClampNeg x1)) (fun w3 ew3 => ?_)
      have h := h w3 ew3
      refine q_astore (i := 5) (lv' := [(4, .int r2), (0, .ref (a 0)), (1, .int x1), (2, .int x2), (3, .int x3)]) hx hb dX3_cut_36 hl (by decide) (fun _ => rfl) (fun ls hl => ?_)
      refine lv_iload_n hx hb dX3_cut_38 rfl (lv_at hl 4 rfl) ?_
      refine q_aload hx hb dX3_cut_39 (lv_at hl 0 rfl) ?_
      obtain ⟨v5, rfl, hv6, h⟩ := h
      refine x_getN (ci := 2) (CN := RX2) (T := TX2) (N := 9) E in_X2 hH (17 + 3 * v5) (wC_v0 hv6) rfl 3 (by decide) kfn_X3_66 rfl dX3_cut_41 ?_
      refine lv_icmp_gt (tgt := 54) hx hb dX3_cut_44 (by decide) (fun hc => ?_) (fun hc => ?_)
      · have h := h.1 hc
        exact k_X3_cut_54 E  hH (lv_sub hl [2] rfl) h
      · have h := h.2 hc
        refine lv_iload_n hx hb dX3_cut_47 rfl (lv_at hl 5 rfl) ?_
        refine x_ci (x_runS (As := [.int x3]) (rest := []) E (c_X3_isShelfPlace h) yk_X3_isShelfPlace yi_X3_isShelfPlace km_X3_63 ⟨Nat.le_of_ble_eq_true rfl, Nat.le_of_ble_eq_true rfl⟩ ⟨Nat.le_of_ble_eq_true rfl, Nat.le_of_ble_eq_true rfl⟩ hH  hl.1 rfl rfl (lv_room (Nat.le_of_ble_eq_true rfl)) dX3_cut_48) hH (fun r8 C7 H locs h hH => ?_)
        refine lv_if_ne (tgt := 60) hx hb dX3_cut_51 (by decide) (fun hc => ?_) (fun hc => ?_)
        · have h := h.1 hc
          refine lv_aload_n hx hb dX3_cut_60 rfl (lv_at hl 2 rfl) ?_
          refine lv_iconst (v := (0 : Int32)) hx hb dX3_cut_61 (by decide) ?_
          refine x_ci (x_runV (As := [.int (0 : Int32)]) (rest := []) E (c_X3_hasRoomFor h) yk_X3_hasRoomFor yi_X3_hasRoomFor km_X3_69 ⟨Nat.le_of_ble_eq_true rfl, Nat.le_of_ble_eq_true rfl⟩ ⟨Nat.le_of_ble_eq_true rfl, Nat.le_of_ble_eq_true rfl⟩ hH (va_recv E.2.2.2.2.2.1 hH.1 (ci := 3) (q0 := 0) rfl wC_g0) hl.1 rfl rfl (lv_room (Nat.le_of_ble_eq_true rfl)) dX3_cut_62) hH (fun r10 C9 H locs h hH => ?_)
          refine lv_if_ne (tgt := 75) hx hb dX3_cut_65 (by decide) (fun hc => ?_) (fun hc => ?_)
          · have h := h.1 hc
            refine lv_aload_n hx hb dX3_cut_75 rfl (lv_at hl 2 rfl) ?_
            refine lv_aload_n hx hb dX3_cut_76 rfl (lv_at hl 2 rfl) ?_
            refine lv_aload hx hb dX3_cut_77 (lv_at hl 0 rfl) ?_
            refine lv_iload_n hx hb dX3_cut_79 rfl (lv_at hl 4 rfl) ?_
            refine lv_iconst (v := (0 : Int32)) hx hb dX3_cut_80 (by decide) ?_
            obtain ⟨hv11, h⟩ := h
            refine x_cr (x_runV (As := [.ref (ad (3 * v5)), .int x2, .int (0 : Int32)]) (rest := [.ref (a 0)]) E (c_X3_grow h) yk_X3_grow yi_X3_grow km_X3_72 ⟨Nat.le_of_ble_eq_true rfl, Nat.le_of_ble_eq_true rfl⟩ ⟨Nat.le_of_ble_eq_true rfl, Nat.le_of_ble_eq_true rfl⟩ hH (va_recv E.2.2.2.2.2.1 hH.1 (ci := 3) (q0 := 0) rfl wC_g0) hl.1 rfl rfl (lv_room (Nat.le_of_ble_eq_true rfl)) dX3_cut_81) hH (fun u14 H locs h hH => ?_)
            obtain ⟨C12, ad15⟩ := u14
            have hH : HX D (wC cI cO a ad15 C12) A s.heap H locs := hH
            have hl := lv_sub hl [1, 2, 3, 4, 5] rfl
            have h : _ := h
            refine lv_iload_n hx hb dX3_cut_84 rfl (lv_at hl 4 rfl) ?_
            obtain ⟨hv16, h⟩ := h
            refine x_ci (x_runV (As := [.ref (ad15 (3 * (cn C9))), .int x3]) (rest := []) E (c_X3_showGrown h) yk_X3_showGrown yi_X3_showGrown km_X3_80 ⟨Nat.le_of_ble_eq_true rfl, Nat.le_of_ble_eq_true rfl⟩ ⟨Nat.le_of_ble_eq_true rfl, Nat.le_of_ble_eq_true rfl⟩ hH (va_recv E.2.2.2.2.2.1 hH.1 (ci := 3) (q0 := 0) rfl wC_g0) hl.1 rfl rfl (lv_room (Nat.le_of_ble_eq_true rfl)) dX3_cut_85) hH (fun r18 C17 H locs h hH => ?_)
            exact x_iret (u := (C17, ad15)) E hH h dX3_cut_88
          · have h := h.2 hc
            refine lv_aload_n hx hb dX3_cut_68 rfl (lv_at hl 2 rfl) ?_
            refine lv_bipush (v := (-5 : Int32)) hx hb dX3_cut_69 (by decide) ?_
            refine x_ci (x_runV (As := [.int (-5 : Int32)]) (rest := []) E (c_X3_told h) yk_X3_told yi_X3_told km_X3_56 ⟨Nat.le_of_ble_eq_true rfl, Nat.le_of_ble_eq_true rfl⟩ ⟨Nat.le_of_ble_eq_true rfl, Nat.le_of_ble_eq_true rfl⟩ hH (va_recv E.2.2.2.2.2.1 hH.1 (ci := 3) (q0 := 0) rfl wC_g0) hl.1 rfl rfl (lv_room (Nat.le_of_ble_eq_true rfl)) dX3_cut_71) hH (fun r20 C19 H locs h hH => ?_)
            refine W.widen (k := 3) (n := 809) (by decide) (by decide) ?_
            exact x_iret (u := (C19, ad)) E hH h dX3_cut_74
        · have h := h.2 hc
          exact k_X3_cut_54 E  hH (lv_sub hl [2] rfl) h
    · have h := h.2 hc
      refine lv_aload_n hx hb dX3_cut_23 rfl (lv_at hl 1 rfl) ?_
      refine lv_bipush (v := (-4 : Int32)) hx hb dX3_cut_24 (by decide) ?_
      refine x_ci (x_runV (As := [.int (-4 : Int32)]) (rest := []) E (c_X3_told h) yk_X3_told yi_X3_told km_X3_56 ⟨Nat.le_of_ble_eq_true rfl, Nat.le_of_ble_eq_true rfl⟩ ⟨Nat.le_of_ble_eq_true rfl, Nat.le_of_ble_eq_true rfl⟩ hH (va_recv E.2.2.2.2.2.1 hH.1 (ci := 3) (q0 := 0) rfl wC_g0) hl.1 rfl rfl (lv_room (Nat.le_of_ble_eq_true rfl)) dX3_cut_26) hH (fun r22 C21 H locs h hH => ?_)
      refine W.widen (k := 3) (n := 809) (by decide) (by decide) ?_
      exact x_iret (u := (C21, ad)) E hH h dX3_cut_29
  · have h := h.2 hc
    refine lv_aload_n hx hb dX3_cut_12 rfl (lv_at hl 1 rfl) ?_
    refine lv_iload hx hb dX3_cut_13 (lv_at hl 0 rfl) ?_
    refine x_ci (x_runV (As := [.int r2]) (rest := []) E (c_X3_told h) yk_X3_told yi_X3_told km_X3_56 ⟨Nat.le_of_ble_eq_true rfl, Nat.le_of_ble_eq_true rfl⟩ ⟨Nat.le_of_ble_eq_true rfl, Nat.le_of_ble_eq_true rfl⟩ hH (va_recv E.2.2.2.2.2.1 hH.1 (ci := 3) (q0 := 0) rfl wC_g0) hl.1 rfl rfl (lv_room (Nat.le_of_ble_eq_true rfl)) dX3_cut_15) hH (fun r24 C23 H locs h hH => ?_)
    refine W.widen (k := 3) (n := 809) (by decide) (by decide) ?_
    exact x_iret (u := (C23, ad)) E hH h dX3_cut_18
set_option maxHeartbeats 4000000 in
set_option maxRecDepth 100000 in
theorem k_X3_join_123b {post : Int32 → CS → Prop} (E : Cx p s m args meth c cX3_join 11 RX3 (some .int) D (tyW cI cS cO))  {K123 : CS → Int32 → Int32 → Int32 → Option Nat → Int32 → Prop} (hK123 : ∀ (ad : Nat → Nat) (C : CS) (x3 : Int32) (x5 : Int32) (x8 : Int32) (o9 : Option Nat) (x10 : Int32) (H : Heap) (locs : List Loc) (ls : Array Slot), HX D (wC cI cO a ad C) A s.heap H locs → lv_has ls 11 [(0, .ref (a 0)), (3, .int x3), (5, .int x5), (8, .int x8), (9, rv ad o9), (10, .int x10)] → K123 C x3 x5 x8 o9 x10 → W p l e (rmA 4 3 809) s m args below meth c H locs 3 809 (MQ below ((QI D (fun u : CS × (Nat → Nat) => wC cI cO a u.2 u.1) (fun r u => post r u.1)) A) args s 3 809 A) (F0 m 123 ls [])) {ad : Nat → Nat} {C : CS} {x3 : Int32} {x5 : Int32} {x8 : Int32} {o9 : Option Nat} {x10 : Int32} {H : Heap} {locs : List Loc} {ls : Array Slot} (hH : HX D (wC cI cO a ad C) A s.heap H locs) (hl : lv_has ls 11 [(0, .ref (a 0)), (3, .int x3), (5, .int x5), (8, .int x8), (9, rv ad o9), (10, .int x10)]) (h : w_X3_join_123b post K123 C x3 x5 x8 o9 x10) : W p l e (rmA 4 3 809) s m args below meth c H locs 3 809 (MQ below ((QI D (fun u : CS × (Nat → Nat) => wC cI cO a u.2 u.1) (fun r u => post r u.1)) A) args s 3 809 A) (F0 m 123 ls []) := by
  have hx := E.1
  have hb := E.2.1
  unfold w_X3_join_123b at h
  refine lv_iload hx hb dX3_join_123 (lv_at hl 5 rfl) ?_
  refine lv_iload hx hb dX3_join_125 (lv_at hl 3 rfl) ?_
  refine lv_icmp_ge (tgt := 167) hx hb dX3_join_127 (by decide) (fun hc => ?_) (fun hc => ?_)
  · have h := h.1 hc
    refine lv_aload_n hx hb dX3_join_167 rfl (lv_at hl 0 rfl) ?_
    refine q_aload hx hb dX3_join_168 (lv_at hl 4 rfl) ?_
    refine lv_iload hx hb dX3_join_170 (lv_at hl 2 rfl) ?_
    obtain ⟨v31, rfl, hv32, h⟩ := h
    refine x_ci (x_runV (As := [.ref (ad (3 * v31)), .int x5]) (rest := []) E (c_X3_showGrown h) yk_X3_showGrown yi_X3_showGrown km_X3_80 ⟨Nat.le_of_ble_eq_true rfl, Nat.le_of_ble_eq_true rfl⟩ ⟨Nat.le_of_ble_eq_true rfl, Nat.le_of_ble_eq_true rfl⟩ hH (va_recv E.2.2.2.2.2.1 hH.1 (ci := 3) (q0 := 0) rfl wC_g0) hl.1 rfl rfl (lv_room (Nat.le_of_ble_eq_true rfl)) dX3_join_172) hH (fun r34 C33 H locs h hH => ?_)
    exact x_iret (u := (C33, ad)) E hH h dX3_join_175
  · have h := h.2 hc
    refine q_aload hx hb dX3_join_130 (lv_at hl 4 rfl) ?_
    refine lv_iload hx hb dX3_join_132 (lv_at hl 5 rfl) ?_
    refine lv_aload_n hx hb dX3_join_134 rfl (lv_at hl 0 rfl) ?_
    refine x_get (ci := 3) (CN := RX3) (T := TX3) (N := 11) E in_X3 hH 0 wC_g0 rfl 5 (by decide) kf_X3_25 rfl dX3_join_135 ?_
    refine x_getN (ci := 0) (CN := RX0) (T := TX0) (N := 4) E in_X0 hH 4 wC_g4 rfl 0 (by decide) kfn_X3_92 rfl dX3_join_138 ?_
    refine lv_iload_n hx hb dX3_join_141 rfl (lv_at hl 1 rfl) ?_
    refine lv_iload hx hb dX3_join_142 (lv_at hl 5 rfl) ?_
    refine lv_iadd hx hb dX3_join_144 ?_
    obtain ⟨hi35, h⟩ := h
    refine x_iald E hH 5 0 wC_g5 rfl hi35 dX3_join_145 ?_
    refine lv_aload_n hx hb dX3_join_146 rfl (lv_at hl 0 rfl) ?_
    refine x_get (ci := 3) (CN := RX3) (T := TX3) (N := 11) E in_X3 hH 0 wC_g0 rfl 5 (by decide) kf_X3_25 rfl dX3_join_147 ?_
    refine x_getN (ci := 0) (CN := RX0) (T := TX0) (N := 4) E in_X0 hH 4 wC_g4 rfl 1 (by decide) kfn_X3_95 rfl dX3_join_150 ?_
    refine lv_iload_n hx hb dX3_join_153 rfl (lv_at hl 1 rfl) ?_
    refine lv_iload hx hb dX3_join_154 (lv_at hl 5 rfl) ?_
    refine lv_iadd hx hb dX3_join_156 ?_
    refine x_iald E hH 6 0 wC_g6 rfl hi35 dX3_join_157 ?_
    obtain ⟨v36, rfl, hv37, h⟩ := h
    refine x_cv (x_runVN (As := [.int x10, .int ((cr C 5) (Int32.toNatClampNeg (x3 + x10))), .int ((cr C 6) (Int32.toNatClampNeg (x3 + x10)))]) (rest := []) E (c_X2_writeOwn h) yk_X2_writeOwn yi_X2_writeOwn kmn_X3_76 ⟨Nat.le_of_ble_eq_true rfl, Nat.le_of_ble_eq_true rfl⟩ ⟨Nat.le_of_ble_eq_true rfl, Nat.le_of_ble_eq_true rfl⟩ hH (va_recv E.2.2.2.2.2.1 hH.1 (ci := 2) (q0 := 17 + 3 * v36) rfl (wC_v0 hv37)) hl.1 rfl rfl (lv_room (Nat.le_of_ble_eq_true rfl)) dX3_join_158) hH (fun C38 H locs h hH => ?_)
    refine lv_iinc (v := (x10 + 1)) (lv' := [(10, .int (x10 + 1)), (0, .ref (a 0)), (3, .int x3), (5, .int x5), (8, .int x8), (9, .ref (ad (3 * v36)))]) hx hb dX3_join_161 hl (k := 5) rfl rfl (by decide) rfl (fun ls hl => ?_)
    refine lv_goto (tgt := 123) hx hb dX3_join_164 (by decide) ?_
    exact hK123 _ _ _ _ _ _ _ _ _ _ hH (lv_sub hl [1, 2, 3, 4, 5, 0] rfl) h
theorem k_X3_join_123 {post : Int32 → CS → Prop} (E : Cx p s m args meth c cX3_join 11 RX3 (some .int) D (tyW cI cS cO))  (n : Nat) : ∀ {ad : Nat → Nat} {C : CS} {x3 : Int32} {x5 : Int32} {x8 : Int32} {o9 : Option Nat} {x10 : Int32} {H : Heap} {locs : List Loc} {ls : Array Slot} (hH : HX D (wC cI cO a ad C) A s.heap H locs) (hl : lv_has ls 11 [(0, .ref (a 0)), (3, .int x3), (5, .int x5), (8, .int x8), (9, rv ad o9), (10, .int x10)]) (h : w_X3_join_123 post n C x3 x5 x8 o9 x10), W p l e (rmA 4 3 809) s m args below meth c H locs 3 809 (MQ below ((QI D (fun u : CS × (Nat → Nat) => wC cI cO a u.2 u.1) (fun r u => post r u.1)) A) args s 3 809 A) (F0 m 123 ls []) := by
  induction n with
  | zero => intros; contradiction
  | succ n ih => intro ad C x3 x5 x8 o9 x10 H locs ls hH hl h; exact k_X3_join_123b E  (fun ad C x3 x5 x8 o9 x10 H locs ls hH hl h => ih hH hl h) hH hl h
set_option maxHeartbeats 4000000 in
set_option maxRecDepth 100000 in
theorem k_X3_join_85 {post : Int32 → CS → Prop} (E : Cx p s m args meth c cX3_join 11 RX3 (some .int) D (tyW cI cS cO))  {ad : Nat → Nat} {C : CS}  {H : Heap} {locs : List Loc} {ls : Array Slot} (hH : HX D (wC cI cO a ad C) A s.heap H locs) (hl : lv_has ls 11 [(0, .ref (a 0))]) (h : w_X3_join_85 post C ) : W p l e (rmA 4 3 809) s m args below meth c H locs 0 0 (MQ below ((QI D (fun u : CS × (Nat → Nat) => wC cI cO a u.2 u.1) (fun r u => post r u.1)) A) args s 3 809 A) (F0 m 85 ls []) := by
  have hx := E.1
  have hb := E.2.1
  unfold w_X3_join_85 at h
  refine lv_aload_n hx hb dX3_join_85 rfl (lv_at hl 0 rfl) ?_
  refine lv_bipush (v := (-5 : Int32)) hx hb dX3_join_86 (by decide) ?_
  refine x_ci (x_runV (As := [.int (-5 : Int32)]) (rest := []) E (c_X3_told h) yk_X3_told yi_X3_told km_X3_56 ⟨Nat.le_of_ble_eq_true rfl, Nat.le_of_ble_eq_true rfl⟩ ⟨Nat.le_of_ble_eq_true rfl, Nat.le_of_ble_eq_true rfl⟩ hH (va_recv E.2.2.2.2.2.1 hH.1 (ci := 3) (q0 := 0) rfl wC_g0) hl.1 rfl rfl (lv_room (Nat.le_of_ble_eq_true rfl)) dX3_join_88) hH (fun r30 C29 H locs h hH => ?_)
  refine W.widen (k := 3) (n := 809) (by decide) (by decide) ?_
  exact x_iret (u := (C29, ad)) E hH h dX3_join_91
set_option maxHeartbeats 4000000 in
set_option maxRecDepth 100000 in
theorem k_X3_join_22 {post : Int32 → CS → Prop} (E : Cx p s m args meth c cX3_join 11 RX3 (some .int) D (tyW cI cS cO))  {ad : Nat → Nat} {C : CS} {x1 : Int32} {x2 : Int32} {x3 : Int32} {x4 : Int32} {x5 : Int32} {x6 : Int32} {H : Heap} {locs : List Loc} {ls : Array Slot} (hH : HX D (wC cI cO a ad C) A s.heap H locs) (hl : lv_has ls 11 [(0, .ref (a 0)), (1, .int x1), (2, .int x2), (3, .int x3), (4, .int x4), (5, .int x5), (6, .int x6)]) (h : w_X3_join_22 post C x1 x2 x3 x4 x5 x6) : W p l e (rmA 4 3 809) s m args below meth c H locs 0 0 (MQ below ((QI D (fun u : CS × (Nat → Nat) => wC cI cO a u.2 u.1) (fun r u => post r u.1)) A) args s 3 809 A) (F0 m 22 ls []) := by
  have hx := E.1
  have hb := E.2.1
  unfold w_X3_join_22 at h
  refine lv_iload hx hb dX3_join_22 (lv_at hl 6 rfl) ?_
  refine lv_if_eq (tgt := 34) hx hb dX3_join_24 (by decide) (fun hc => ?_) (fun hc => ?_)
  · have h := h.1 hc
    refine lv_iload hx hb dX3_join_34 (lv_at hl 5 rfl) ?_
    refine x_ci (x_runS (As := [.int x5]) (rest := []) E (c_X3_isShelfPlace h) yk_X3_isShelfPlace yi_X3_isShelfPlace km_X3_63 ⟨Nat.le_of_ble_eq_true rfl, Nat.le_of_ble_eq_true rfl⟩ ⟨Nat.le_of_ble_eq_true rfl, Nat.le_of_ble_eq_true rfl⟩ hH  hl.1 rfl rfl (lv_room (Nat.le_of_ble_eq_true rfl)) dX3_join_36) hH (fun r6 C5 H locs h hH => ?_)
    refine lv_if_ne (tgt := 48) hx hb dX3_join_39 (by decide) (fun hc => ?_) (fun hc => ?_)
    · have h := h.1 hc
      refine lv_aload_n hx hb dX3_join_48 rfl (lv_at hl 0 rfl) ?_
      refine x_get (ci := 3) (CN := RX3) (T := TX3) (N := 11) E in_X3 hH 0 wC_g0 rfl 3 (by decide) kf_X3_15 rfl dX3_join_49 ?_
      refine lv_iload_n hx hb dX3_join_52 rfl (lv_at hl 1 rfl) ?_
      obtain ⟨hi8, h⟩ := h
      refine x_aald E hH 2 2 wC_g2 rfl hi8 dX3_join_53 ?_
      refine q_top (ad := ad) (x := co C5 2 (Int32.toNatClampNeg x1)) (fun w7 ew7 => ?_)
      have h := h w7 ew7
      refine q_astore (i := 7) (lv' := [(0, .ref (a 0)), (1, .int x1), (2, .int x2), (3, .int x3), (4, .int x4), (5, .int x5), (6, .int x6)]) hx hb dX3_join_54 hl (by decide) (fun _ => rfl) (fun ls hl => ?_)
      refine lv_iload hx hb dX3_join_56 (lv_at hl 5 rfl) ?_
      refine lv_iload_n hx hb dX3_join_58 rfl (lv_at hl 4 rfl) ?_
      refine lv_isub hx hb dX3_join_59 ?_
      refine lv_istore (lv' := [(8, .int (x4 - x3)), (7, rv ad w7), (0, .ref (a 0)), (1, .int x1), (2, .int x2), (3, .int x3), (4, .int x4), (5, .int x5), (6, .int x6)]) hx hb dX3_join_60 hl (by decide) (by simp [rv_cat]) (fun ls hl => ?_)
      refine lv_iload hx hb dX3_join_62 (lv_at hl 0 rfl) ?_
      refine lv_sipush (v := (400 : Int32)) hx hb dX3_join_64 (by decide) ?_
      refine q_aload hx hb dX3_join_67 (lv_at hl 1 rfl) ?_
      obtain ⟨v9, rfl, hv10, h⟩ := h
      refine x_getN (ci := 2) (CN := RX2) (T := TX2) (N := 9) E in_X2 hH (17 + 3 * v9) (wC_v0 hv10) rfl 3 (by decide) kfn_X3_66 rfl dX3_join_69 ?_
      refine lv_isub hx hb dX3_join_72 ?_
      refine lv_icmp_gt (tgt := 85) hx hb dX3_join_73 (by decide) (fun hc => ?_) (fun hc => ?_)
      · have h := h.1 hc
        exact k_X3_join_85 E  hH (lv_sub hl [2] rfl) h
      · have h := h.2 hc
        refine lv_aload_n hx hb dX3_join_76 rfl (lv_at hl 2 rfl) ?_
        refine lv_iload hx hb dX3_join_77 (lv_at hl 0 rfl) ?_
        refine x_ci (x_runV (As := [.int (x4 - x3)]) (rest := []) E (c_X3_hasRoomFor h) yk_X3_hasRoomFor yi_X3_hasRoomFor km_X3_69 ⟨Nat.le_of_ble_eq_true rfl, Nat.le_of_ble_eq_true rfl⟩ ⟨Nat.le_of_ble_eq_true rfl, Nat.le_of_ble_eq_true rfl⟩ hH (va_recv E.2.2.2.2.2.1 hH.1 (ci := 3) (q0 := 0) rfl wC_g0) hl.1 rfl rfl (lv_room (Nat.le_of_ble_eq_true rfl)) dX3_join_79) hH (fun r12 C11 H locs h hH => ?_)
        refine lv_if_ne (tgt := 92) hx hb dX3_join_82 (by decide) (fun hc => ?_) (fun hc => ?_)
        · have h := h.1 hc
          refine lv_aload_n hx hb dX3_join_92 rfl (lv_at hl 2 rfl) ?_
          refine x_get (ci := 3) (CN := RX3) (T := TX3) (N := 11) E in_X3 hH 0 wC_g0 rfl 5 (by decide) kf_X3_25 rfl dX3_join_93 ?_
          refine lv_aload_n hx hb dX3_join_96 rfl (lv_at hl 2 rfl) ?_
          refine x_get (ci := 3) (CN := RX3) (T := TX3) (N := 11) E in_X3 hH 0 wC_g0 rfl 3 (by decide) kf_X3_15 rfl dX3_join_97 ?_
          refine lv_iload_n hx hb dX3_join_100 rfl (lv_at hl 4 rfl) ?_
          obtain ⟨hi14, h⟩ := h
          refine x_aald E hH 2 2 wC_g2 rfl hi14 dX3_join_101 ?_
          refine q_top (ad := ad) (x := co C11 2 (Int32.toNatClampNeg x2)) (fun w13 ew13 => ?_)
          have h := h w13 ew13
          obtain ⟨v15, rfl, hv16, h⟩ := h
          refine x_cv (x_runVN (As := [.ref (ad (3 * v15))]) (rest := []) E (c_X0_layOut4 h) yk_X0_layOut yi_X0_layOut kmn_X3_88 ⟨Nat.le_of_ble_eq_true rfl, Nat.le_of_ble_eq_true rfl⟩ ⟨Nat.le_of_ble_eq_true rfl, Nat.le_of_ble_eq_true rfl⟩ hH (va_recv E.2.2.2.2.2.1 hH.1 (ci := 0) (q0 := 4) rfl wC_g4) hl.1 rfl rfl (lv_room (Nat.le_of_ble_eq_true rfl)) dX3_join_102) hH (fun C17 H locs h hH => ?_)
          refine lv_aload_n hx hb dX3_join_105 rfl (lv_at hl 2 rfl) ?_
          refine lv_aload hx hb dX3_join_106 (lv_at hl 1 rfl) ?_
          refine lv_aload hx hb dX3_join_108 (lv_at hl 1 rfl) ?_
          obtain ⟨hv19, h⟩ := h
          refine x_getN (ci := 2) (CN := RX2) (T := TX2) (N := 9) E in_X2 hH (17 + 3 * v9) (wC_v0 hv19) rfl 3 (by decide) kfn_X3_66 rfl dX3_join_110 ?_
          refine lv_iload hx hb dX3_join_113 (lv_at hl 0 rfl) ?_
          refine x_cr (x_runV (As := [.ref (ad (3 * v9)), .int (cf C17 v9 3), .int (x4 - x3)]) (rest := []) E (c_X3_grow h) yk_X3_grow yi_X3_grow km_X3_72 ⟨Nat.le_of_ble_eq_true rfl, Nat.le_of_ble_eq_true rfl⟩ ⟨Nat.le_of_ble_eq_true rfl, Nat.le_of_ble_eq_true rfl⟩ hH (va_recv E.2.2.2.2.2.1 hH.1 (ci := 3) (q0 := 0) rfl wC_g0) hl.1 rfl rfl (lv_room (Nat.le_of_ble_eq_true rfl)) dX3_join_115) hH (fun u22 H locs h hH => ?_)
          obtain ⟨C20, ad23⟩ := u22
          have hH : HX D (wC cI cO a ad23 C20) A s.heap H locs := hH
          have hl := lv_sub hl [0, 2, 3, 4, 5, 6, 7, 8] rfl
          have h : _ := h
          refine lv_astore (lv' := [(9, .ref (ad23 (3 * (cn C17)))), (8, .int (x4 - x3)), (0, .ref (a 0)), (1, .int x1), (2, .int x2), (3, .int x3), (4, .int x4), (5, .int x5), (6, .int x6)]) hx hb dX3_join_118 hl (by decide) rfl (fun ls hl => ?_)
          refine lv_iconst (v := (0 : Int32)) hx hb dX3_join_120 (by decide) ?_
          refine lv_istore (lv' := [(10, .int (0 : Int32)), (9, .ref (ad23 (3 * (cn C17)))), (8, .int (x4 - x3)), (0, .ref (a 0)), (1, .int x1), (2, .int x2), (3, .int x3), (4, .int x4), (5, .int x5), (6, .int x6)]) hx hb dX3_join_121 hl (by decide) rfl (fun ls hl => ?_)
          obtain ⟨n, h⟩ := h
          exact k_X3_join_123 E  n hH (lv_sub hl [3, 6, 8, 2, 1, 0] rfl) h
        · have h := h.2 hc
          exact k_X3_join_85 E  hH (lv_sub hl [2] rfl) h
    · have h := h.2 hc
      refine lv_aload_n hx hb dX3_join_42 rfl (lv_at hl 0 rfl) ?_
      refine lv_iconst (v := (-1 : Int32)) hx hb dX3_join_43 (by decide) ?_
      refine x_ci (x_runV (As := [.int (-1 : Int32)]) (rest := []) E (c_X3_told h) yk_X3_told yi_X3_told km_X3_56 ⟨Nat.le_of_ble_eq_true rfl, Nat.le_of_ble_eq_true rfl⟩ ⟨Nat.le_of_ble_eq_true rfl, Nat.le_of_ble_eq_true rfl⟩ hH (va_recv E.2.2.2.2.2.1 hH.1 (ci := 3) (q0 := 0) rfl wC_g0) hl.1 rfl rfl (lv_room (Nat.le_of_ble_eq_true rfl)) dX3_join_44) hH (fun r26 C25 H locs h hH => ?_)
      refine W.widen (k := 3) (n := 809) (by decide) (by decide) ?_
      exact x_iret (u := (C25, ad)) E hH h dX3_join_47
  · have h := h.2 hc
    refine lv_aload_n hx hb dX3_join_27 rfl (lv_at hl 0 rfl) ?_
    refine lv_iload hx hb dX3_join_28 (lv_at hl 6 rfl) ?_
    refine x_ci (x_runV (As := [.int x6]) (rest := []) E (c_X3_told h) yk_X3_told yi_X3_told km_X3_56 ⟨Nat.le_of_ble_eq_true rfl, Nat.le_of_ble_eq_true rfl⟩ ⟨Nat.le_of_ble_eq_true rfl, Nat.le_of_ble_eq_true rfl⟩ hH (va_recv E.2.2.2.2.2.1 hH.1 (ci := 3) (q0 := 0) rfl wC_g0) hl.1 rfl rfl (lv_room (Nat.le_of_ble_eq_true rfl)) dX3_join_30) hH (fun r28 C27 H locs h hH => ?_)
    refine W.widen (k := 3) (n := 809) (by decide) (by decide) ?_
    exact x_iret (u := (C27, ad)) E hH h dX3_join_33
set_option maxHeartbeats 4000000 in
set_option maxRecDepth 100000 in
theorem c_X3_join {l : Launch} {D : va_G} {cI cS cO : ClassId} {a ad : Nat → Nat} {C : CS} {x1 : Int32} {x2 : Int32} {x3 : Int32} {x4 : Int32} {x5 : Int32} {post : Int32 → CS → Prop} (h : w_X3_join post C x1 x2 x3 x4 x5) : MetX l D (tyW cI cS cO) yX3_join cX3_join 11 (some .int) 4 3 809 [.ref (a 0), .int x1, .int x2, .int x3, .int x4, .int x5] (wC cI cO a ad C) (QI D (fun u : CS × (Nat → Nat) => wC cI cO a u.2 u.1) (fun r u => post r u.1)) := by
  refine x_ent (by decide) (Nat.le_of_ble_eq_true rfl) ?_
  intro p e s m below meth c ls E _ hH hl
  have hx := E.1
  have hb := E.2.1
  generalize va_A (wC cI cO a ad C) s.heap.size = A at hH ⊢
  have hl : lv_has ls 11 [(0, .ref (a 0)), (1, .int x1), (2, .int x2), (3, .int x3), (4, .int x4), (5, .int x5)] := hl
  unfold w_X3_join at h
  refine lv_aload_n hx hb dX3_join_0 rfl (lv_at hl 0 rfl) ?_
  refine lv_iload_n hx hb dX3_join_1 rfl (lv_at hl 1 rfl) ?_
  refine x_ci (x_runV (As := [.int x1]) (rest := []) E (c_X3_findingOfGrown h) yk_X3_findingOfGrown yi_X3_findingOfGrown km_X3_52 ⟨Nat.le_of_ble_eq_true rfl, Nat.le_of_ble_eq_true rfl⟩ ⟨Nat.le_of_ble_eq_true rfl, Nat.le_of_ble_eq_true rfl⟩ hH (va_recv E.2.2.2.2.2.1 hH.1 (ci := 3) (q0 := 0) rfl wC_g0) hl.1 rfl rfl (lv_room (Nat.le_of_ble_eq_true rfl)) dX3_join_2) hH (fun r2 C1 H locs h hH => ?_)
  refine lv_istore (lv' := [(6, .int r2), (0, .ref (a 0)), (1, .int x1), (2, .int x2), (3, .int x3), (4, .int x4), (5, .int x5)]) hx hb dX3_join_5 hl (by decide) rfl (fun ls hl => ?_)
  refine lv_iload hx hb dX3_join_7 (lv_at hl 0 rfl) ?_
  refine lv_if_ne (tgt := 22) hx hb dX3_join_9 (by decide) (fun hc => ?_) (fun hc => ?_)
  · have h := h.1 hc
    exact k_X3_join_22 E  hH (lv_sub hl [1, 2, 3, 4, 5, 6, 0] rfl) h
  · have h := h.2 hc
    refine lv_aload_n hx hb dX3_join_12 rfl (lv_at hl 1 rfl) ?_
    refine lv_iload_n hx hb dX3_join_13 rfl (lv_at hl 3 rfl) ?_
    refine lv_iload_n hx hb dX3_join_14 rfl (lv_at hl 4 rfl) ?_
    refine lv_iload hx hb dX3_join_15 (lv_at hl 5 rfl) ?_
    refine x_ci (x_runV (As := [.int x2, .int x3, .int x4]) (rest := []) E (c_X3_findingOfSpan h) yk_X3_findingOfSpan yi_X3_findingOfSpan km_X3_84 ⟨Nat.le_of_ble_eq_true rfl, Nat.le_of_ble_eq_true rfl⟩ ⟨Nat.le_of_ble_eq_true rfl, Nat.le_of_ble_eq_true rfl⟩ hH (va_recv E.2.2.2.2.2.1 hH.1 (ci := 3) (q0 := 0) rfl wC_g0) hl.1 rfl rfl (lv_room (Nat.le_of_ble_eq_true rfl)) dX3_join_17) hH (fun r4 C3 H locs h hH => ?_)
    refine lv_istore (lv' := [(6, .int r4), (0, .ref (a 0)), (1, .int x1), (2, .int x2), (3, .int x3), (4, .int x4), (5, .int x5)]) hx hb dX3_join_20 hl (by decide) rfl (fun ls hl => ?_)
    exact k_X3_join_22 E  hH (lv_sub hl [1, 2, 3, 4, 5, 6, 0] rfl) h
set_option maxHeartbeats 4000000 in
set_option maxRecDepth 100000 in
theorem k_X3_turn_110b {post : Int32 → CS → Prop} (E : Cx p s m args meth c cX3_turn 10 RX3 (some .int) D (tyW cI cS cO))  {K110 : CS → Int32 → Int32 → Int32 → Option Nat → Int32 → Prop} (hK110 : ∀ (ad : Nat → Nat) (C : CS) (x1 : Int32) (x2 : Int32) (x7 : Int32) (o8 : Option Nat) (x9 : Int32) (H : Heap) (locs : List Loc) (ls : Array Slot), HX D (wC cI cO a ad C) A s.heap H locs → lv_has ls 10 [(0, .ref (a 0)), (1, .int x1), (2, .int x2), (7, .int x7), (8, rv ad o8), (9, .int x9)] → K110 C x1 x2 x7 o8 x9 → W p l e (rmA 4 3 809) s m args below meth c H locs 3 809 (MQ below ((QI D (fun u : CS × (Nat → Nat) => wC cI cO a u.2 u.1) (fun r u => post r u.1)) A) args s 3 809 A) (F0 m 110 ls [])) {ad : Nat → Nat} {C : CS} {x1 : Int32} {x2 : Int32} {x7 : Int32} {o8 : Option Nat} {x9 : Int32} {H : Heap} {locs : List Loc} {ls : Array Slot} (hH : HX D (wC cI cO a ad C) A s.heap H locs) (hl : lv_has ls 10 [(0, .ref (a 0)), (1, .int x1), (2, .int x2), (7, .int x7), (8, rv ad o8), (9, .int x9)]) (h : w_X3_turn_110b post K110 C x1 x2 x7 o8 x9) : W p l e (rmA 4 3 809) s m args below meth c H locs 3 809 (MQ below ((QI D (fun u : CS × (Nat → Nat) => wC cI cO a u.2 u.1) (fun r u => post r u.1)) A) args s 3 809 A) (F0 m 110 ls []) := by
  have hx := E.1
  have hb := E.2.1
  unfold w_X3_turn_110b at h
  refine lv_iload hx hb dX3_turn_110 (lv_at hl 5 rfl) ?_
  refine lv_iload hx hb dX3_turn_112 (lv_at hl 3 rfl) ?_
  refine lv_icmp_ge (tgt := 154) hx hb dX3_turn_114 (by decide) (fun hc => ?_) (fun hc => ?_)
  · have h := h.1 hc
    refine lv_aload_n hx hb dX3_turn_154 rfl (lv_at hl 0 rfl) ?_
    refine q_aload hx hb dX3_turn_155 (lv_at hl 4 rfl) ?_
    refine lv_iload_n hx hb dX3_turn_157 rfl (lv_at hl 1 rfl) ?_
    obtain ⟨v30, rfl, hv31, h⟩ := h
    refine x_ci (x_runV (As := [.ref (ad (3 * v30)), .int x1]) (rest := []) E (c_X3_showGrown h) yk_X3_showGrown yi_X3_showGrown km_X3_80 ⟨Nat.le_of_ble_eq_true rfl, Nat.le_of_ble_eq_true rfl⟩ ⟨Nat.le_of_ble_eq_true rfl, Nat.le_of_ble_eq_true rfl⟩ hH (va_recv E.2.2.2.2.2.1 hH.1 (ci := 3) (q0 := 0) rfl wC_g0) hl.1 rfl rfl (lv_room (Nat.le_of_ble_eq_true rfl)) dX3_turn_158) hH (fun r33 C32 H locs h hH => ?_)
    exact x_iret (u := (C32, ad)) E hH h dX3_turn_161
  · have h := h.2 hc
    refine q_aload hx hb dX3_turn_117 (lv_at hl 4 rfl) ?_
    refine lv_iload hx hb dX3_turn_119 (lv_at hl 5 rfl) ?_
    refine lv_aload_n hx hb dX3_turn_121 rfl (lv_at hl 0 rfl) ?_
    refine x_get (ci := 3) (CN := RX3) (T := TX3) (N := 11) E in_X3 hH 0 wC_g0 rfl 5 (by decide) kf_X3_25 rfl dX3_turn_122 ?_
    refine x_getN (ci := 0) (CN := RX0) (T := TX0) (N := 4) E in_X0 hH 4 wC_g4 rfl 0 (by decide) kfn_X3_92 rfl dX3_turn_125 ?_
    refine lv_iload_n hx hb dX3_turn_128 rfl (lv_at hl 2 rfl) ?_
    refine lv_iload hx hb dX3_turn_129 (lv_at hl 5 rfl) ?_
    refine lv_iadd hx hb dX3_turn_131 ?_
    obtain ⟨hi34, h⟩ := h
    refine x_iald E hH 5 0 wC_g5 rfl hi34 dX3_turn_132 ?_
    refine lv_aload_n hx hb dX3_turn_133 rfl (lv_at hl 0 rfl) ?_
    refine x_get (ci := 3) (CN := RX3) (T := TX3) (N := 11) E in_X3 hH 0 wC_g0 rfl 5 (by decide) kf_X3_25 rfl dX3_turn_134 ?_
    refine x_getN (ci := 0) (CN := RX0) (T := TX0) (N := 4) E in_X0 hH 4 wC_g4 rfl 1 (by decide) kfn_X3_95 rfl dX3_turn_137 ?_
    refine lv_iload_n hx hb dX3_turn_140 rfl (lv_at hl 2 rfl) ?_
    refine lv_iload hx hb dX3_turn_141 (lv_at hl 5 rfl) ?_
    refine lv_iadd hx hb dX3_turn_143 ?_
    refine x_iald E hH 6 0 wC_g6 rfl hi34 dX3_turn_144 ?_
    obtain ⟨v35, rfl, hv36, h⟩ := h
    refine x_cv (x_runVN (As := [.int x9, .int ((cr C 5) (Int32.toNatClampNeg (x2 + x9))), .int ((cr C 6) (Int32.toNatClampNeg (x2 + x9)))]) (rest := []) E (c_X2_writeOwn h) yk_X2_writeOwn yi_X2_writeOwn kmn_X3_76 ⟨Nat.le_of_ble_eq_true rfl, Nat.le_of_ble_eq_true rfl⟩ ⟨Nat.le_of_ble_eq_true rfl, Nat.le_of_ble_eq_true rfl⟩ hH (va_recv E.2.2.2.2.2.1 hH.1 (ci := 2) (q0 := 17 + 3 * v35) rfl (wC_v0 hv36)) hl.1 rfl rfl (lv_room (Nat.le_of_ble_eq_true rfl)) dX3_turn_145) hH (fun C37 H locs h hH => ?_)
    refine lv_iinc (v := (x9 + 1)) (lv' := [(9, .int (x9 + 1)), (0, .ref (a 0)), (1, .int x1), (2, .int x2), (7, .int x7), (8, .ref (ad (3 * v35)))]) hx hb dX3_turn_148 hl (k := 5) rfl rfl (by decide) rfl (fun ls hl => ?_)
    refine lv_goto (tgt := 110) hx hb dX3_turn_151 (by decide) ?_
    exact hK110 _ _ _ _ _ _ _ _ _ _ hH (lv_sub hl [1, 2, 3, 4, 5, 0] rfl) h
theorem k_X3_turn_110 {post : Int32 → CS → Prop} (E : Cx p s m args meth c cX3_turn 10 RX3 (some .int) D (tyW cI cS cO))  (n : Nat) : ∀ {ad : Nat → Nat} {C : CS} {x1 : Int32} {x2 : Int32} {x7 : Int32} {o8 : Option Nat} {x9 : Int32} {H : Heap} {locs : List Loc} {ls : Array Slot} (hH : HX D (wC cI cO a ad C) A s.heap H locs) (hl : lv_has ls 10 [(0, .ref (a 0)), (1, .int x1), (2, .int x2), (7, .int x7), (8, rv ad o8), (9, .int x9)]) (h : w_X3_turn_110 post n C x1 x2 x7 o8 x9), W p l e (rmA 4 3 809) s m args below meth c H locs 3 809 (MQ below ((QI D (fun u : CS × (Nat → Nat) => wC cI cO a u.2 u.1) (fun r u => post r u.1)) A) args s 3 809 A) (F0 m 110 ls []) := by
  induction n with
  | zero => intros; contradiction
  | succ n ih => intro ad C x1 x2 x7 o8 x9 H locs ls hH hl h; exact k_X3_turn_110b E  (fun ad C x1 x2 x7 o8 x9 H locs ls hH hl h => ih hH hl h) hH hl h
set_option maxHeartbeats 4000000 in
set_option maxRecDepth 100000 in
theorem k_X3_turn_47 {post : Int32 → CS → Prop} (E : Cx p s m args meth c cX3_turn 10 RX3 (some .int) D (tyW cI cS cO))  {ad : Nat → Nat} {C : CS}  {H : Heap} {locs : List Loc} {ls : Array Slot} (hH : HX D (wC cI cO a ad C) A s.heap H locs) (hl : lv_has ls 10 [(0, .ref (a 0))]) (h : w_X3_turn_47 post C ) : W p l e (rmA 4 3 809) s m args below meth c H locs 0 0 (MQ below ((QI D (fun u : CS × (Nat → Nat) => wC cI cO a u.2 u.1) (fun r u => post r u.1)) A) args s 3 809 A) (F0 m 47 ls []) := by
  have hx := E.1
  have hb := E.2.1
  unfold w_X3_turn_47 at h
  refine lv_aload_n hx hb dX3_turn_47 rfl (lv_at hl 0 rfl) ?_
  refine lv_iconst (v := (-1 : Int32)) hx hb dX3_turn_48 (by decide) ?_
  refine x_ci (x_runV (As := [.int (-1 : Int32)]) (rest := []) E (c_X3_told h) yk_X3_told yi_X3_told km_X3_56 ⟨Nat.le_of_ble_eq_true rfl, Nat.le_of_ble_eq_true rfl⟩ ⟨Nat.le_of_ble_eq_true rfl, Nat.le_of_ble_eq_true rfl⟩ hH (va_recv E.2.2.2.2.2.1 hH.1 (ci := 3) (q0 := 0) rfl wC_g0) hl.1 rfl rfl (lv_room (Nat.le_of_ble_eq_true rfl)) dX3_turn_49) hH (fun r29 C28 H locs h hH => ?_)
  refine W.widen (k := 3) (n := 809) (by decide) (by decide) ?_
  exact x_iret (u := (C28, ad)) E hH h dX3_turn_52
set_option maxHeartbeats 4000000 in
set_option maxRecDepth 100000 in
theorem c_X3_turn {l : Launch} {D : va_G} {cI cS cO : ClassId} {a ad : Nat → Nat} {C : CS} {x1 : Int32} {x2 : Int32} {x3 : Int32} {x4 : Int32} {post : Int32 → CS → Prop} (h : w_X3_turn post C x1 x2 x3 x4) : MetX l D (tyW cI cS cO) yX3_turn cX3_turn 10 (some .int) 4 3 809 [.ref (a 0), .int x1, .int x2, .int x3, .int x4] (wC cI cO a ad C) (QI D (fun u : CS × (Nat → Nat) => wC cI cO a u.2 u.1) (fun r u => post r u.1)) := by
  refine x_ent (by decide) (Nat.le_of_ble_eq_true rfl) ?_
  intro p e s m below meth c ls E _ hH hl
  have hx := E.1
  have hb := E.2.1
  generalize va_A (wC cI cO a ad C) s.heap.size = A at hH ⊢
  have hl : lv_has ls 10 [(0, .ref (a 0)), (1, .int x1), (2, .int x2), (3, .int x3), (4, .int x4)] := hl
  unfold w_X3_turn at h
  refine lv_aload_n hx hb dX3_turn_0 rfl (lv_at hl 0 rfl) ?_
  refine lv_iload_n hx hb dX3_turn_1 rfl (lv_at hl 1 rfl) ?_
  refine x_ci (x_runV (As := [.int x1]) (rest := []) E (c_X3_findingOfGrown h) yk_X3_findingOfGrown yi_X3_findingOfGrown km_X3_52 ⟨Nat.le_of_ble_eq_true rfl, Nat.le_of_ble_eq_true rfl⟩ ⟨Nat.le_of_ble_eq_true rfl, Nat.le_of_ble_eq_true rfl⟩ hH (va_recv E.2.2.2.2.2.1 hH.1 (ci := 3) (q0 := 0) rfl wC_g0) hl.1 rfl rfl (lv_room (Nat.le_of_ble_eq_true rfl)) dX3_turn_2) hH (fun r2 C1 H locs h hH => ?_)
  refine lv_istore (lv' := [(5, .int r2), (0, .ref (a 0)), (1, .int x1), (2, .int x2), (3, .int x3), (4, .int x4)]) hx hb dX3_turn_5 hl (by decide) rfl (fun ls hl => ?_)
  refine lv_iload hx hb dX3_turn_7 (lv_at hl 0 rfl) ?_
  refine lv_if_eq (tgt := 19) hx hb dX3_turn_9 (by decide) (fun hc => ?_) (fun hc => ?_)
  · have h := h.1 hc
    refine lv_aload_n hx hb dX3_turn_19 rfl (lv_at hl 1 rfl) ?_
    refine x_get (ci := 3) (CN := RX3) (T := TX3) (N := 11) E in_X3 hH 0 wC_g0 rfl 3 (by decide) kf_X3_15 rfl dX3_turn_20 ?_
    refine lv_iload_n hx hb dX3_turn_23 rfl (lv_at hl 2 rfl) ?_
    obtain ⟨hi4, h⟩ := h
    refine x_aald E hH 2 2 wC_g2 rfl hi4 dX3_turn_24 ?_
    refine q_top (ad := ad) (x := co C1 2 (Int32.toNatClampNeg x1)) (fun w3 ew3 => ?_)
    have h := h w3 ew3
    refine q_astore (i := 6) (lv' := [(5, .int r2), (0, .ref (a 0)), (1, .int x1), (2, .int x2), (3, .int x3), (4, .int x4)]) hx hb dX3_turn_25 hl (by decide) (fun _ => rfl) (fun ls hl => ?_)
    refine lv_iload_n hx hb dX3_turn_27 rfl (lv_at hl 4 rfl) ?_
    refine lv_if_lt (tgt := 47) hx hb dX3_turn_28 (by decide) (fun hc => ?_) (fun hc => ?_)
    · have h := h.1 hc
      exact k_X3_turn_47 E  hH (lv_sub hl [2] rfl) h
    · have h := h.2 hc
      refine lv_iload_n hx hb dX3_turn_31 rfl (lv_at hl 4 rfl) ?_
      refine q_aload hx hb dX3_turn_32 (lv_at hl 0 rfl) ?_
      obtain ⟨v5, rfl, hv6, h⟩ := h
      refine x_getN (ci := 2) (CN := RX2) (T := TX2) (N := 9) E in_X2 hH (17 + 3 * v5) (wC_v0 hv6) rfl 3 (by decide) kfn_X3_66 rfl dX3_turn_34 ?_
      refine lv_icmp_ge (tgt := 47) hx hb dX3_turn_37 (by decide) (fun hc => ?_) (fun hc => ?_)
      · have h := h.1 hc
        exact k_X3_turn_47 E  hH (lv_sub hl [2] rfl) h
      · have h := h.2 hc
        refine lv_iload_n hx hb dX3_turn_40 rfl (lv_at hl 5 rfl) ?_
        refine x_ci (x_runS (As := [.int x3]) (rest := []) E (c_X3_isValue h) yk_X3_isValue yi_X3_isValue km_X3_59 ⟨Nat.le_of_ble_eq_true rfl, Nat.le_of_ble_eq_true rfl⟩ ⟨Nat.le_of_ble_eq_true rfl, Nat.le_of_ble_eq_true rfl⟩ hH  hl.1 rfl rfl (lv_room (Nat.le_of_ble_eq_true rfl)) dX3_turn_41) hH (fun r8 C7 H locs h hH => ?_)
        refine lv_if_ne (tgt := 53) hx hb dX3_turn_44 (by decide) (fun hc => ?_) (fun hc => ?_)
        · have h := h.1 hc
          refine lv_aload hx hb dX3_turn_53 (lv_at hl 0 rfl) ?_
          obtain ⟨hv9, h⟩ := h
          refine x_getN (ci := 2) (CN := RX2) (T := TX2) (N := 9) E in_X2 hH (17 + 3 * v5) (wC_v0 hv9) rfl 3 (by decide) kfn_X3_66 rfl dX3_turn_55 ?_
          refine lv_iload_n hx hb dX3_turn_58 rfl (lv_at hl 4 rfl) ?_
          refine lv_isub hx hb dX3_turn_59 ?_
          refine lv_istore (lv' := [(7, .int ((cf C7 v5 3) - x2)), (6, .ref (ad (3 * v5))), (5, .int r2), (0, .ref (a 0)), (1, .int x1), (2, .int x2), (3, .int x3), (4, .int x4)]) hx hb dX3_turn_60 hl (by decide) rfl (fun ls hl => ?_)
          refine lv_aload_n hx hb dX3_turn_62 rfl (lv_at hl 3 rfl) ?_
          refine lv_iload hx hb dX3_turn_63 (lv_at hl 0 rfl) ?_
          refine x_ci (x_runV (As := [.int ((cf C7 v5 3) - x2)]) (rest := []) E (c_X3_hasRoomFor h) yk_X3_hasRoomFor yi_X3_hasRoomFor km_X3_69 ⟨Nat.le_of_ble_eq_true rfl, Nat.le_of_ble_eq_true rfl⟩ ⟨Nat.le_of_ble_eq_true rfl, Nat.le_of_ble_eq_true rfl⟩ hH (va_recv E.2.2.2.2.2.1 hH.1 (ci := 3) (q0 := 0) rfl wC_g0) hl.1 rfl rfl (lv_room (Nat.le_of_ble_eq_true rfl)) dX3_turn_65) hH (fun r11 C10 H locs h hH => ?_)
          refine lv_if_ne (tgt := 78) hx hb dX3_turn_68 (by decide) (fun hc => ?_) (fun hc => ?_)
          · have h := h.1 hc
            refine lv_aload_n hx hb dX3_turn_78 rfl (lv_at hl 3 rfl) ?_
            refine x_get (ci := 3) (CN := RX3) (T := TX3) (N := 11) E in_X3 hH 0 wC_g0 rfl 5 (by decide) kf_X3_25 rfl dX3_turn_79 ?_
            refine lv_aload hx hb dX3_turn_82 (lv_at hl 1 rfl) ?_
            obtain ⟨hv12, h⟩ := h
            refine x_cv (x_runVN (As := [.ref (ad (3 * v5))]) (rest := []) E (c_X0_layOut4 h) yk_X0_layOut yi_X0_layOut kmn_X3_88 ⟨Nat.le_of_ble_eq_true rfl, Nat.le_of_ble_eq_true rfl⟩ ⟨Nat.le_of_ble_eq_true rfl, Nat.le_of_ble_eq_true rfl⟩ hH (va_recv E.2.2.2.2.2.1 hH.1 (ci := 0) (q0 := 4) rfl wC_g4) hl.1 rfl rfl (lv_room (Nat.le_of_ble_eq_true rfl)) dX3_turn_84) hH (fun C13 H locs h hH => ?_)
            refine lv_aload_n hx hb dX3_turn_87 rfl (lv_at hl 3 rfl) ?_
            refine lv_aload hx hb dX3_turn_88 (lv_at hl 1 rfl) ?_
            refine lv_iload_n hx hb dX3_turn_90 rfl (lv_at hl 5 rfl) ?_
            refine lv_iload hx hb dX3_turn_91 (lv_at hl 0 rfl) ?_
            obtain ⟨hv15, h⟩ := h
            refine x_cr (x_runV (As := [.ref (ad (3 * v5)), .int x2, .int ((cf C7 v5 3) - x2)]) (rest := []) E (c_X3_grow h) yk_X3_grow yi_X3_grow km_X3_72 ⟨Nat.le_of_ble_eq_true rfl, Nat.le_of_ble_eq_true rfl⟩ ⟨Nat.le_of_ble_eq_true rfl, Nat.le_of_ble_eq_true rfl⟩ hH (va_recv E.2.2.2.2.2.1 hH.1 (ci := 3) (q0 := 0) rfl wC_g0) hl.1 rfl rfl (lv_room (Nat.le_of_ble_eq_true rfl)) dX3_turn_93) hH (fun u18 H locs h hH => ?_)
            obtain ⟨C16, ad19⟩ := u18
            have hH : HX D (wC cI cO a ad19 C16) A s.heap H locs := hH
            have hl := lv_sub hl [0, 2, 3, 4, 5, 6, 7] rfl
            have h : _ := h
            refine lv_astore (lv' := [(8, .ref (ad19 (3 * (cn C13)))), (7, .int ((cf C7 v5 3) - x2)), (5, .int r2), (0, .ref (a 0)), (1, .int x1), (2, .int x2), (3, .int x3), (4, .int x4)]) hx hb dX3_turn_96 hl (by decide) rfl (fun ls hl => ?_)
            refine lv_aload hx hb dX3_turn_98 (lv_at hl 0 rfl) ?_
            refine lv_iconst (v := (0 : Int32)) hx hb dX3_turn_100 (by decide) ?_
            refine lv_iload_n hx hb dX3_turn_101 rfl (lv_at hl 6 rfl) ?_
            refine lv_iload hx hb dX3_turn_102 (lv_at hl 7 rfl) ?_
            obtain ⟨hv20, h⟩ := h
            refine x_cv (x_runVN (As := [.int (0 : Int32), .int x3, .int x4]) (rest := []) E (c_X2_writeOwn h) yk_X2_writeOwn yi_X2_writeOwn kmn_X3_76 ⟨Nat.le_of_ble_eq_true rfl, Nat.le_of_ble_eq_true rfl⟩ ⟨Nat.le_of_ble_eq_true rfl, Nat.le_of_ble_eq_true rfl⟩ hH (va_recv E.2.2.2.2.2.1 hH.1 (ci := 2) (q0 := 17 + 3 * (cn C13)) rfl (wC_v0 hv20)) hl.1 rfl rfl (lv_room (Nat.le_of_ble_eq_true rfl)) dX3_turn_104) hH (fun C21 H locs h hH => ?_)
            refine lv_iconst (v := (1 : Int32)) hx hb dX3_turn_107 (by decide) ?_
            refine lv_istore (lv' := [(9, .int (1 : Int32)), (8, .ref (ad19 (3 * (cn C13)))), (7, .int ((cf C7 v5 3) - x2)), (5, .int r2), (0, .ref (a 0)), (1, .int x1), (2, .int x2), (3, .int x3), (4, .int x4)]) hx hb dX3_turn_108 hl (by decide) rfl (fun ls hl => ?_)
            obtain ⟨n, h⟩ := h
            exact k_X3_turn_110 E  n hH (lv_sub hl [4, 5, 6, 2, 1, 0] rfl) h
          · have h := h.2 hc
            refine lv_aload_n hx hb dX3_turn_71 rfl (lv_at hl 3 rfl) ?_
            refine lv_bipush (v := (-5 : Int32)) hx hb dX3_turn_72 (by decide) ?_
            refine x_ci (x_runV (As := [.int (-5 : Int32)]) (rest := []) E (c_X3_told h) yk_X3_told yi_X3_told km_X3_56 ⟨Nat.le_of_ble_eq_true rfl, Nat.le_of_ble_eq_true rfl⟩ ⟨Nat.le_of_ble_eq_true rfl, Nat.le_of_ble_eq_true rfl⟩ hH (va_recv E.2.2.2.2.2.1 hH.1 (ci := 3) (q0 := 0) rfl wC_g0) hl.1 rfl rfl (lv_room (Nat.le_of_ble_eq_true rfl)) dX3_turn_74) hH (fun r25 C24 H locs h hH => ?_)
            refine W.widen (k := 3) (n := 809) (by decide) (by decide) ?_
            exact x_iret (u := (C24, ad)) E hH h dX3_turn_77
        · have h := h.2 hc
          exact k_X3_turn_47 E  hH (lv_sub hl [2] rfl) h
  · have h := h.2 hc
    refine lv_aload_n hx hb dX3_turn_12 rfl (lv_at hl 1 rfl) ?_
    refine lv_iload hx hb dX3_turn_13 (lv_at hl 0 rfl) ?_
    refine x_ci (x_runV (As := [.int r2]) (rest := []) E (c_X3_told h) yk_X3_told yi_X3_told km_X3_56 ⟨Nat.le_of_ble_eq_true rfl, Nat.le_of_ble_eq_true rfl⟩ ⟨Nat.le_of_ble_eq_true rfl, Nat.le_of_ble_eq_true rfl⟩ hH (va_recv E.2.2.2.2.2.1 hH.1 (ci := 3) (q0 := 0) rfl wC_g0) hl.1 rfl rfl (lv_room (Nat.le_of_ble_eq_true rfl)) dX3_turn_15) hH (fun r27 C26 H locs h hH => ?_)
    refine W.widen (k := 3) (n := 809) (by decide) (by decide) ?_
    exact x_iret (u := (C26, ad)) E hH h dX3_turn_18
set_option maxHeartbeats 4000000 in
set_option maxRecDepth 100000 in
theorem k_X3_version_15 {post : Int32 → CS → Prop} (E : Cx p s m args meth c cX3_version 4 RX3 (some .int) D (tyW cI cS cO))  {C : CS}  {H : Heap} {locs : List Loc} {ls : Array Slot} (hH : HX D (wC cI cO a ad C) A s.heap H locs) (hl : lv_has ls 4 [(0, .ref (a 0))]) (h : w_X3_version_15 post C ) : W p l e (rmA 1 0 0) s m args below meth c H locs 0 0 (MQ below ((QI D (wC cI cO a ad) post) A) args s 0 0 A) (F0 m 15 ls []) := by
  have hx := E.1
  have hb := E.2.1
  unfold w_X3_version_15 at h
  refine lv_aload_n hx hb dX3_version_15 rfl (lv_at hl 0 rfl) ?_
  refine lv_iconst (v := (-1 : Int32)) hx hb dX3_version_16 (by decide) ?_
  refine x_ci (x_runV (As := [.int (-1 : Int32)]) (rest := []) E (c_X3_told h) yk_X3_told yi_X3_told km_X3_56 ⟨Nat.le_of_ble_eq_true rfl, Nat.le_of_ble_eq_true rfl⟩ ⟨Nat.le_of_ble_eq_true rfl, Nat.le_of_ble_eq_true rfl⟩ hH (va_recv E.2.2.2.2.2.1 hH.1 (ci := 3) (q0 := 0) rfl wC_g0) hl.1 rfl rfl (lv_room (Nat.le_of_ble_eq_true rfl)) dX3_version_17) hH (fun r13 C12 H locs h hH => ?_)
  exact x_iret E hH h dX3_version_20
set_option maxHeartbeats 4000000 in
set_option maxRecDepth 100000 in
theorem c_X3_version {l : Launch} {D : va_G} {cI cS cO : ClassId} {a ad : Nat → Nat} {C : CS} {x1 : Int32} {x2 : Int32} {post : Int32 → CS → Prop} (h : w_X3_version post C x1 x2) : MetX l D (tyW cI cS cO) yX3_version cX3_version 4 (some .int) 1 0 0 [.ref (a 0), .int x1, .int x2] (wC cI cO a ad C) (QI D (wC cI cO a ad) post) := by
  refine x_ent (by decide) (Nat.le_of_ble_eq_true rfl) ?_
  intro p e s m below meth c ls E _ hH hl
  have hx := E.1
  have hb := E.2.1
  generalize va_A (wC cI cO a ad C) s.heap.size = A at hH ⊢
  have hl : lv_has ls 4 [(0, .ref (a 0)), (1, .int x1), (2, .int x2)] := hl
  unfold w_X3_version at h
  refine lv_aload_n hx hb dX3_version_0 rfl (lv_at hl 0 rfl) ?_
  refine lv_iload_n hx hb dX3_version_1 rfl (lv_at hl 1 rfl) ?_
  refine x_ci (x_runV (As := [.int x1]) (rest := []) E (c_X3_isVersion h) yk_X3_isVersion yi_X3_isVersion km_X3_98 ⟨Nat.le_of_ble_eq_true rfl, Nat.le_of_ble_eq_true rfl⟩ ⟨Nat.le_of_ble_eq_true rfl, Nat.le_of_ble_eq_true rfl⟩ hH (va_recv E.2.2.2.2.2.1 hH.1 (ci := 3) (q0 := 0) rfl wC_g0) hl.1 rfl rfl (lv_room (Nat.le_of_ble_eq_true rfl)) dX3_version_2) hH (fun r2 C1 H locs h hH => ?_)
  refine lv_if_eq (tgt := 15) hx hb dX3_version_5 (by decide) (fun hc => ?_) (fun hc => ?_)
  · have h := h.1 hc
    exact k_X3_version_15 E  hH (lv_sub hl [0] rfl) h
  · have h := h.2 hc
    refine lv_iload_n hx hb dX3_version_8 rfl (lv_at hl 2 rfl) ?_
    refine x_ci (x_runS (As := [.int x2]) (rest := []) E (c_X3_isShelfPlace h) yk_X3_isShelfPlace yi_X3_isShelfPlace km_X3_63 ⟨Nat.le_of_ble_eq_true rfl, Nat.le_of_ble_eq_true rfl⟩ ⟨Nat.le_of_ble_eq_true rfl, Nat.le_of_ble_eq_true rfl⟩ hH  hl.1 rfl rfl (lv_room (Nat.le_of_ble_eq_true rfl)) dX3_version_9) hH (fun r4 C3 H locs h hH => ?_)
    refine lv_if_ne (tgt := 21) hx hb dX3_version_12 (by decide) (fun hc => ?_) (fun hc => ?_)
    · have h := h.1 hc
      refine lv_aload_n hx hb dX3_version_21 rfl (lv_at hl 0 rfl) ?_
      refine x_get (ci := 3) (CN := RX3) (T := TX3) (N := 11) E in_X3 hH 0 wC_g0 rfl 0 (by decide) kf_X3_11 rfl dX3_version_22 ?_
      refine lv_iload_n hx hb dX3_version_25 rfl (lv_at hl 1 rfl) ?_
      obtain ⟨hi6, h⟩ := h
      refine x_aald E hH 1 2 wC_g1 rfl hi6 dX3_version_26 ?_
      refine q_top (ad := ad) (x := co C3 1 (Int32.toNatClampNeg x1)) (fun w5 ew5 => ?_)
      have h := h w5 ew5
      refine q_astore_n (i := 3) (lv' := [(0, .ref (a 0)), (1, .int x1), (2, .int x2)]) hx hb dX3_version_27 rfl hl (by decide) (fun _ => rfl) (fun ls hl => ?_)
      refine lv_aload_n hx hb dX3_version_28 rfl (lv_at hl 1 rfl) ?_
      refine q_aload_n hx hb dX3_version_29 rfl (lv_at hl 0 rfl) ?_
      refine lv_iload_n hx hb dX3_version_30 rfl (lv_at hl 3 rfl) ?_
      obtain ⟨v7, rfl, hv8, h⟩ := h
      refine x_ci (x_runV (As := [.ref (ad (3 * v7)), .int x2]) (rest := []) E (c_X3_showGrown h) yk_X3_showGrown yi_X3_showGrown km_X3_80 ⟨Nat.le_of_ble_eq_true rfl, Nat.le_of_ble_eq_true rfl⟩ ⟨Nat.le_of_ble_eq_true rfl, Nat.le_of_ble_eq_true rfl⟩ hH (va_recv E.2.2.2.2.2.1 hH.1 (ci := 3) (q0 := 0) rfl wC_g0) hl.1 rfl rfl (lv_room (Nat.le_of_ble_eq_true rfl)) dX3_version_31) hH (fun r10 C9 H locs h hH => ?_)
      refine lv_pop hx hb dX3_version_34 rfl ?_
      refine lv_aload_n hx hb dX3_version_35 rfl (lv_at hl 0 rfl) ?_
      obtain ⟨hv11, h⟩ := h
      refine x_getN (ci := 2) (CN := RX2) (T := TX2) (N := 9) E in_X2 hH (17 + 3 * v7) (wC_v0 hv11) rfl 3 (by decide) kfn_X3_66 rfl dX3_version_36 ?_
      exact x_iret E hH h dX3_version_39
    · have h := h.2 hc
      exact k_X3_version_15 E  hH (lv_sub hl [0] rfl) h
set_option maxHeartbeats 4000000 in
set_option maxRecDepth 100000 in
theorem c_X3_about {l : Launch} {D : va_G} {cI cS cO : ClassId} {a ad : Nat → Nat} {C : CS} {x1 : Int32} {x2 : Int32} {post : Int32 → CS → Prop} (h : w_X3_about post C x1 x2) : MetX l D (tyW cI cS cO) yX3_about cX3_about 4 (some .int) 1 0 0 [.ref (a 0), .int x1, .int x2] (wC cI cO a ad C) (QI D (wC cI cO a ad) post) := by
  refine x_ent (by decide) (Nat.le_of_ble_eq_true rfl) ?_
  intro p e s m below meth c ls E _ hH hl
  have hx := E.1
  have hb := E.2.1
  generalize va_A (wC cI cO a ad C) s.heap.size = A at hH ⊢
  have hl : lv_has ls 4 [(0, .ref (a 0)), (1, .int x1), (2, .int x2)] := hl
  unfold w_X3_about at h
  refine lv_aload_n hx hb dX3_about_0 rfl (lv_at hl 0 rfl) ?_
  refine lv_iload_n hx hb dX3_about_1 rfl (lv_at hl 1 rfl) ?_
  refine x_ci (x_runV (As := [.int x1]) (rest := []) E (c_X3_isVersion h) yk_X3_isVersion yi_X3_isVersion km_X3_98 ⟨Nat.le_of_ble_eq_true rfl, Nat.le_of_ble_eq_true rfl⟩ ⟨Nat.le_of_ble_eq_true rfl, Nat.le_of_ble_eq_true rfl⟩ hH (va_recv E.2.2.2.2.2.1 hH.1 (ci := 3) (q0 := 0) rfl wC_g0) hl.1 rfl rfl (lv_room (Nat.le_of_ble_eq_true rfl)) dX3_about_2) hH (fun r2 C1 H locs h hH => ?_)
  refine lv_if_ne (tgt := 14) hx hb dX3_about_5 (by decide) (fun hc => ?_) (fun hc => ?_)
  · have h := h.1 hc
    refine lv_aload_n hx hb dX3_about_14 rfl (lv_at hl 0 rfl) ?_
    refine x_get (ci := 3) (CN := RX3) (T := TX3) (N := 11) E in_X3 hH 0 wC_g0 rfl 0 (by decide) kf_X3_11 rfl dX3_about_15 ?_
    refine lv_iload_n hx hb dX3_about_18 rfl (lv_at hl 1 rfl) ?_
    obtain ⟨hi4, h⟩ := h
    refine x_aald E hH 1 2 wC_g1 rfl hi4 dX3_about_19 ?_
    refine q_top (ad := ad) (x := co C1 1 (Int32.toNatClampNeg x1)) (fun w3 ew3 => ?_)
    have h := h w3 ew3
    refine q_astore_n (i := 3) (lv' := [(0, .ref (a 0)), (1, .int x1), (2, .int x2)]) hx hb dX3_about_20 rfl hl (by decide) (fun _ => rfl) (fun ls hl => ?_)
    refine lv_iload_n hx hb dX3_about_21 rfl (lv_at hl 3 rfl) ?_
    by_cases hs0 : x2 = 0
    · refine lv_tableIn (off := 34) (tgt := 56) hx hb dX3_about_22 (by rw [hs0]; decide) (by rw [hs0]; decide) (by rw [hs0]; rfl) (by decide) ?_
      have h := h.1 hs0
      refine q_aload_n hx hb dX3_about_56 rfl (lv_at hl 0 rfl) ?_
      obtain ⟨v5, rfl, hv6, h⟩ := h
      refine x_getN (ci := 2) (CN := RX2) (T := TX2) (N := 9) E in_X2 hH (17 + 3 * v5) (wC_v0 hv6) rfl 3 (by decide) kfn_X3_66 rfl dX3_about_57 ?_
      exact x_iret E hH h dX3_about_60
    · by_cases hs1 : x2 = 1
      · refine lv_tableIn (off := 39) (tgt := 61) hx hb dX3_about_22 (by rw [hs1]; decide) (by rw [hs1]; decide) (by rw [hs1]; rfl) (by decide) ?_
        have h := h.2.1 hs1
        refine q_aload_n hx hb dX3_about_61 rfl (lv_at hl 0 rfl) ?_
        obtain ⟨v7, rfl, hv8, h⟩ := h
        refine x_getN (ci := 2) (CN := RX2) (T := TX2) (N := 9) E in_X2 hH (17 + 3 * v7) (wC_v0 hv8) rfl 1 (by decide) kfn_X3_101 rfl dX3_about_62 ?_
        refine q_top (ad := ad) (x := cp C1 v7) (fun w9 ew9 => ?_)
        have h := h w9 ew9
        refine q_ifnonnull (tgt := 77) hx hb dX3_about_65 (by decide) (fun hc => ?_) (fun hc => ?_)
        · have h := h.1 hc
          refine lv_aload_n hx hb dX3_about_77 rfl (lv_at hl 0 rfl) ?_
          refine x_getN (ci := 2) (CN := RX2) (T := TX2) (N := 9) E in_X2 hH (17 + 3 * v7) (wC_v0 hv8) rfl 1 (by decide) kfn_X3_101 rfl dX3_about_78 ?_
          refine q_top (ad := ad) (x := cp C1 v7) (fun w10 ew10 => ?_)
          have h := h w10 ew10
          obtain ⟨v11, rfl, hv12, h⟩ := h
          refine x_getN (ci := 2) (CN := RX2) (T := TX2) (N := 9) E in_X2 hH (17 + 3 * v11) (wC_v0 hv12) rfl 0 (by decide) kfn_X3_105 rfl dX3_about_81 ?_
          exact x_iret E hH h dX3_about_84
        · have h := h.2 hc
          refine lv_aload_n hx hb dX3_about_68 rfl (lv_at hl 1 rfl) ?_
          refine lv_bipush (v := (-6 : Int32)) hx hb dX3_about_69 (by decide) ?_
          refine x_ci (x_runV (As := [.int (-6 : Int32)]) (rest := []) E (c_X3_told h) yk_X3_told yi_X3_told km_X3_56 ⟨Nat.le_of_ble_eq_true rfl, Nat.le_of_ble_eq_true rfl⟩ ⟨Nat.le_of_ble_eq_true rfl, Nat.le_of_ble_eq_true rfl⟩ hH (va_recv E.2.2.2.2.2.1 hH.1 (ci := 3) (q0 := 0) rfl wC_g0) hl.1 rfl rfl (lv_room (Nat.le_of_ble_eq_true rfl)) dX3_about_71) hH (fun r14 C13 H locs h hH => ?_)
          refine lv_goto (tgt := 84) hx hb dX3_about_74 (by decide) ?_
          exact x_iret E hH h dX3_about_84
      · by_cases hs2 : x2 = 2
        · refine lv_tableIn (off := 63) (tgt := 85) hx hb dX3_about_22 (by rw [hs2]; decide) (by rw [hs2]; decide) (by rw [hs2]; rfl) (by decide) ?_
          have h := h.2.2.1 hs2
          refine q_aload_n hx hb dX3_about_85 rfl (lv_at hl 0 rfl) ?_
          obtain ⟨v15, rfl, hv16, h⟩ := h
          refine x_getN (ci := 2) (CN := RX2) (T := TX2) (N := 9) E in_X2 hH (17 + 3 * v15) (wC_v0 hv16) rfl 8 (by decide) kfn_X3_108 rfl dX3_about_86 ?_
          exact x_iret E hH h dX3_about_89
        · by_cases hs3 : x2 = 3
          · refine lv_tableIn (off := 68) (tgt := 90) hx hb dX3_about_22 (by rw [hs3]; decide) (by rw [hs3]; decide) (by rw [hs3]; rfl) (by decide) ?_
            have h := h.2.2.2.1 hs3
            refine q_aload_n hx hb dX3_about_90 rfl (lv_at hl 0 rfl) ?_
            obtain ⟨v17, rfl, hv18, h⟩ := h
            refine x_getN (ci := 2) (CN := RX2) (T := TX2) (N := 9) E in_X2 hH (17 + 3 * v17) (wC_v0 hv18) rfl 6 (by decide) kfn_X3_111 rfl dX3_about_91 ?_
            refine lv_if_eq (tgt := 101) hx hb dX3_about_94 (by decide) (fun hc => ?_) (fun hc => ?_)
            · have h := h.1 hc
              refine lv_iconst (v := (0 : Int32)) hx hb dX3_about_101 (by decide) ?_
              exact x_iret E hH h dX3_about_102
            · have h := h.2 hc
              refine lv_iconst (v := (1 : Int32)) hx hb dX3_about_97 (by decide) ?_
              refine lv_goto (tgt := 102) hx hb dX3_about_98 (by decide) ?_
              exact x_iret E hH h dX3_about_102
          · by_cases hs4 : x2 = 4
            · refine lv_tableIn (off := 81) (tgt := 103) hx hb dX3_about_22 (by rw [hs4]; decide) (by rw [hs4]; decide) (by rw [hs4]; rfl) (by decide) ?_
              have h := h.2.2.2.2.1 hs4
              refine q_aload_n hx hb dX3_about_103 rfl (lv_at hl 0 rfl) ?_
              obtain ⟨v19, rfl, hv20, h⟩ := h
              refine x_getN (ci := 2) (CN := RX2) (T := TX2) (N := 9) E in_X2 hH (17 + 3 * v19) (wC_v0 hv20) rfl 7 (by decide) kfn_X3_115 rfl dX3_about_104 ?_
              exact x_iret E hH h dX3_about_107
            · refine lv_tableOut (tgt := 108) hx hb dX3_about_22 (by have := lv_neT hs0 (a := 0) (by decide); have := lv_neT hs1 (a := 1) (by decide); have := lv_neT hs2 (a := 2) (by decide); have := lv_neT hs3 (a := 3) (by decide); have := lv_neT hs4 (a := 4) (by decide); omega) (by decide) ?_
              have h := h.2.2.2.2.2 hs0 hs1 hs2 hs3 hs4
              refine lv_aload_n hx hb dX3_about_108 rfl (lv_at hl 1 rfl) ?_
              refine lv_iconst (v := (-1 : Int32)) hx hb dX3_about_109 (by decide) ?_
              refine x_ci (x_runV (As := [.int (-1 : Int32)]) (rest := []) E (c_X3_told h) yk_X3_told yi_X3_told km_X3_56 ⟨Nat.le_of_ble_eq_true rfl, Nat.le_of_ble_eq_true rfl⟩ ⟨Nat.le_of_ble_eq_true rfl, Nat.le_of_ble_eq_true rfl⟩ hH (va_recv E.2.2.2.2.2.1 hH.1 (ci := 3) (q0 := 0) rfl wC_g0) hl.1 rfl rfl (lv_room (Nat.le_of_ble_eq_true rfl)) dX3_about_110) hH (fun r22 C21 H locs h hH => ?_)
              exact x_iret E hH h dX3_about_113
  · have h := h.2 hc
    refine lv_aload_n hx hb dX3_about_8 rfl (lv_at hl 0 rfl) ?_
    refine lv_iconst (v := (-1 : Int32)) hx hb dX3_about_9 (by decide) ?_
    refine x_ci (x_runV (As := [.int (-1 : Int32)]) (rest := []) E (c_X3_told h) yk_X3_told yi_X3_told km_X3_56 ⟨Nat.le_of_ble_eq_true rfl, Nat.le_of_ble_eq_true rfl⟩ ⟨Nat.le_of_ble_eq_true rfl, Nat.le_of_ble_eq_true rfl⟩ hH (va_recv E.2.2.2.2.2.1 hH.1 (ci := 3) (q0 := 0) rfl wC_g0) hl.1 rfl rfl (lv_room (Nat.le_of_ble_eq_true rfl)) dX3_about_10) hH (fun r24 C23 H locs h hH => ?_)
    exact x_iret E hH h dX3_about_13
set_option maxHeartbeats 4000000 in
set_option maxRecDepth 100000 in
theorem k_X3_common_82 {post : Int32 → CS → Prop} (E : Cx p s m args meth c cX3_common 5 RX3 (some .int) D (tyW cI cS cO))  {C : CS} {o3 : Option Nat} {H : Heap} {locs : List Loc} {ls : Array Slot} (hH : HX D (wC cI cO a ad C) A s.heap H locs) (hl : lv_has ls 5 [(3, rv ad o3)]) (h : w_X3_common_82 post C o3) : W p l e (rmA 1 0 0) s m args below meth c H locs 0 0 (MQ below ((QI D (wC cI cO a ad) post) A) args s 0 0 A) (F0 m 82 ls []) := by
  have hx := E.1
  have hb := E.2.1
  unfold w_X3_common_82 at h
  refine q_aload_n hx hb dX3_common_82 rfl (lv_at hl 0 rfl) ?_
  refine q_ifnonnull (tgt := 90) hx hb dX3_common_83 (by decide) (fun hc => ?_) (fun hc => ?_)
  · have h := h.1 hc
    refine q_aload_n hx hb dX3_common_90 rfl (lv_at hl 0 rfl) ?_
    obtain ⟨v18, rfl, hv19, h⟩ := h
    refine x_getN (ci := 2) (CN := RX2) (T := TX2) (N := 9) E in_X2 hH (17 + 3 * v18) (wC_v0 hv19) rfl 0 (by decide) kfn_X3_105 rfl dX3_common_91 ?_
    exact x_iret E hH h dX3_common_94
  · have h := h.2 hc
    refine lv_iconst (v := (0 : Int32)) hx hb dX3_common_86 (by decide) ?_
    refine lv_goto (tgt := 94) hx hb dX3_common_87 (by decide) ?_
    exact x_iret E hH h dX3_common_94
set_option maxHeartbeats 4000000 in
set_option maxRecDepth 100000 in
theorem k_X3_common_37b {post : Int32 → CS → Prop} (E : Cx p s m args meth c cX3_common 5 RX3 (some .int) D (tyW cI cS cO))  {K37 : CS → Option Nat → Option Nat → Prop} (hK37 : ∀ (C : CS) (o3 : Option Nat) (o4 : Option Nat) (H : Heap) (locs : List Loc) (ls : Array Slot), HX D (wC cI cO a ad C) A s.heap H locs → lv_has ls 5 [(3, rv ad o3), (4, rv ad o4)] → K37 C o3 o4 → W p l e (rmA 1 0 0) s m args below meth c H locs 0 0 (MQ below ((QI D (wC cI cO a ad) post) A) args s 0 0 A) (F0 m 37 ls [])) {C : CS} {o3 : Option Nat} {o4 : Option Nat} {H : Heap} {locs : List Loc} {ls : Array Slot} (hH : HX D (wC cI cO a ad C) A s.heap H locs) (hl : lv_has ls 5 [(3, rv ad o3), (4, rv ad o4)]) (h : w_X3_common_37b post K37 C o3 o4) : W p l e (rmA 1 0 0) s m args below meth c H locs 0 0 (MQ below ((QI D (wC cI cO a ad) post) A) args s 0 0 A) (F0 m 37 ls []) := by
  have hx := E.1
  have hb := E.2.1
  unfold w_X3_common_37b at h
  refine q_aload_n hx hb dX3_common_37 rfl (lv_at hl 0 rfl) ?_
  refine q_aload hx hb dX3_common_38 (lv_at hl 1 rfl) ?_
  obtain ⟨ho1, ho2, h⟩ := h
  refine q_acmp_eq (tgt := 82) hH ho1 ho2 hx hb dX3_common_40 (by decide) (fun hc => ?_) (fun hc => ?_)
  · have h := h.1 hc
    exact k_X3_common_82 E  hH (lv_sub hl [0] rfl) h
  · have h := h.2 hc
    refine q_aload_n hx hb dX3_common_43 rfl (lv_at hl 0 rfl) ?_
    refine q_ifnull (tgt := 82) hx hb dX3_common_44 (by decide) (fun hc => ?_) (fun hc => ?_)
    · have h := h.1 hc
      exact k_X3_common_82 E  hH (lv_sub hl [0] rfl) h
    · have h := h.2 hc
      refine q_aload hx hb dX3_common_47 (lv_at hl 1 rfl) ?_
      refine q_ifnull (tgt := 82) hx hb dX3_common_49 (by decide) (fun hc => ?_) (fun hc => ?_)
      · have h := h.1 hc
        exact k_X3_common_82 E  hH (lv_sub hl [0] rfl) h
      · have h := h.2 hc
        refine q_aload_n hx hb dX3_common_52 rfl (lv_at hl 0 rfl) ?_
        obtain ⟨v12, rfl, hv13, h⟩ := h
        refine x_getN (ci := 2) (CN := RX2) (T := TX2) (N := 9) E in_X2 hH (17 + 3 * v12) (wC_v0 hv13) rfl 0 (by decide) kfn_X3_105 rfl dX3_common_53 ?_
        refine q_aload hx hb dX3_common_56 (lv_at hl 1 rfl) ?_
        obtain ⟨v14, rfl, hv15, h⟩ := h
        refine x_getN (ci := 2) (CN := RX2) (T := TX2) (N := 9) E in_X2 hH (17 + 3 * v14) (wC_v0 hv15) rfl 0 (by decide) kfn_X3_105 rfl dX3_common_58 ?_
        refine lv_icmp_le (tgt := 72) hx hb dX3_common_61 (by decide) (fun hc => ?_) (fun hc => ?_)
        · have h := h.1 hc
          refine lv_aload hx hb dX3_common_72 (lv_at hl 1 rfl) ?_
          refine x_getN (ci := 2) (CN := RX2) (T := TX2) (N := 9) E in_X2 hH (17 + 3 * v14) (wC_v0 hv15) rfl 1 (by decide) kfn_X3_101 rfl dX3_common_74 ?_
          refine q_top (ad := ad) (x := cp C v14) (fun w16 ew16 => ?_)
          have h := h w16 ew16
          refine q_astore (i := 4) (lv' := [(3, .ref (ad (3 * v12)))]) hx hb dX3_common_77 hl (by decide) (fun _ => rfl) (fun ls hl => ?_)
          refine lv_goto (tgt := 37) hx hb dX3_common_79 (by decide) ?_
          exact hK37 _ _ _ _ _ _ hH (lv_sub hl [1, 0] rfl) h
        · have h := h.2 hc
          refine lv_aload_n hx hb dX3_common_64 rfl (lv_at hl 0 rfl) ?_
          refine x_getN (ci := 2) (CN := RX2) (T := TX2) (N := 9) E in_X2 hH (17 + 3 * v12) (wC_v0 hv13) rfl 1 (by decide) kfn_X3_101 rfl dX3_common_65 ?_
          refine q_top (ad := ad) (x := cp C v12) (fun w17 ew17 => ?_)
          have h := h w17 ew17
          refine q_astore_n (i := 3) (lv' := [(4, .ref (ad (3 * v14)))]) hx hb dX3_common_68 rfl hl (by decide) (fun _ => rfl) (fun ls hl => ?_)
          refine lv_goto (tgt := 37) hx hb dX3_common_69 (by decide) ?_
          exact hK37 _ _ _ _ _ _ hH (lv_sub hl [0, 1] rfl) h
theorem k_X3_common_37 {post : Int32 → CS → Prop} (E : Cx p s m args meth c cX3_common 5 RX3 (some .int) D (tyW cI cS cO))  (n : Nat) : ∀ {C : CS} {o3 : Option Nat} {o4 : Option Nat} {H : Heap} {locs : List Loc} {ls : Array Slot} (hH : HX D (wC cI cO a ad C) A s.heap H locs) (hl : lv_has ls 5 [(3, rv ad o3), (4, rv ad o4)]) (h : w_X3_common_37 post n C o3 o4), W p l e (rmA 1 0 0) s m args below meth c H locs 0 0 (MQ below ((QI D (wC cI cO a ad) post) A) args s 0 0 A) (F0 m 37 ls []) := by
  induction n with
  | zero => intros; contradiction
  | succ n ih => intro C o3 o4 H locs ls hH hl h; exact k_X3_common_37b E  (fun C o3 o4 H locs ls hH hl h => ih hH hl h) hH hl h
set_option maxHeartbeats 4000000 in
set_option maxRecDepth 100000 in
theorem k_X3_common_16 {post : Int32 → CS → Prop} (E : Cx p s m args meth c cX3_common 5 RX3 (some .int) D (tyW cI cS cO))  {C : CS}  {H : Heap} {locs : List Loc} {ls : Array Slot} (hH : HX D (wC cI cO a ad C) A s.heap H locs) (hl : lv_has ls 5 [(0, .ref (a 0))]) (h : w_X3_common_16 post C ) : W p l e (rmA 1 0 0) s m args below meth c H locs 0 0 (MQ below ((QI D (wC cI cO a ad) post) A) args s 0 0 A) (F0 m 16 ls []) := by
  have hx := E.1
  have hb := E.2.1
  unfold w_X3_common_16 at h
  refine lv_aload_n hx hb dX3_common_16 rfl (lv_at hl 0 rfl) ?_
  refine lv_iconst (v := (-1 : Int32)) hx hb dX3_common_17 (by decide) ?_
  refine x_ci (x_runV (As := [.int (-1 : Int32)]) (rest := []) E (c_X3_told h) yk_X3_told yi_X3_told km_X3_56 ⟨Nat.le_of_ble_eq_true rfl, Nat.le_of_ble_eq_true rfl⟩ ⟨Nat.le_of_ble_eq_true rfl, Nat.le_of_ble_eq_true rfl⟩ hH (va_recv E.2.2.2.2.2.1 hH.1 (ci := 3) (q0 := 0) rfl wC_g0) hl.1 rfl rfl (lv_room (Nat.le_of_ble_eq_true rfl)) dX3_common_18) hH (fun r11 C10 H locs h hH => ?_)
  exact x_iret E hH h dX3_common_21
set_option maxHeartbeats 4000000 in
set_option maxRecDepth 100000 in
theorem c_X3_common {l : Launch} {D : va_G} {cI cS cO : ClassId} {a ad : Nat → Nat} {C : CS} {x1 : Int32} {x2 : Int32} {post : Int32 → CS → Prop} (h : w_X3_common post C x1 x2) : MetX l D (tyW cI cS cO) yX3_common cX3_common 5 (some .int) 1 0 0 [.ref (a 0), .int x1, .int x2] (wC cI cO a ad C) (QI D (wC cI cO a ad) post) := by
  refine x_ent (by decide) (Nat.le_of_ble_eq_true rfl) ?_
  intro p e s m below meth c ls E _ hH hl
  have hx := E.1
  have hb := E.2.1
  generalize va_A (wC cI cO a ad C) s.heap.size = A at hH ⊢
  have hl : lv_has ls 5 [(0, .ref (a 0)), (1, .int x1), (2, .int x2)] := hl
  unfold w_X3_common at h
  refine lv_aload_n hx hb dX3_common_0 rfl (lv_at hl 0 rfl) ?_
  refine lv_iload_n hx hb dX3_common_1 rfl (lv_at hl 1 rfl) ?_
  refine x_ci (x_runV (As := [.int x1]) (rest := []) E (c_X3_isVersion h) yk_X3_isVersion yi_X3_isVersion km_X3_98 ⟨Nat.le_of_ble_eq_true rfl, Nat.le_of_ble_eq_true rfl⟩ ⟨Nat.le_of_ble_eq_true rfl, Nat.le_of_ble_eq_true rfl⟩ hH (va_recv E.2.2.2.2.2.1 hH.1 (ci := 3) (q0 := 0) rfl wC_g0) hl.1 rfl rfl (lv_room (Nat.le_of_ble_eq_true rfl)) dX3_common_2) hH (fun r2 C1 H locs h hH => ?_)
  refine lv_if_eq (tgt := 16) hx hb dX3_common_5 (by decide) (fun hc => ?_) (fun hc => ?_)
  · have h := h.1 hc
    exact k_X3_common_16 E  hH (lv_sub hl [0] rfl) h
  · have h := h.2 hc
    refine lv_aload_n hx hb dX3_common_8 rfl (lv_at hl 0 rfl) ?_
    refine lv_iload_n hx hb dX3_common_9 rfl (lv_at hl 2 rfl) ?_
    refine x_ci (x_runV (As := [.int x2]) (rest := []) E (c_X3_isVersion h) yk_X3_isVersion yi_X3_isVersion km_X3_98 ⟨Nat.le_of_ble_eq_true rfl, Nat.le_of_ble_eq_true rfl⟩ ⟨Nat.le_of_ble_eq_true rfl, Nat.le_of_ble_eq_true rfl⟩ hH (va_recv E.2.2.2.2.2.1 hH.1 (ci := 3) (q0 := 0) rfl wC_g0) hl.1 rfl rfl (lv_room (Nat.le_of_ble_eq_true rfl)) dX3_common_10) hH (fun r4 C3 H locs h hH => ?_)
    refine lv_if_ne (tgt := 22) hx hb dX3_common_13 (by decide) (fun hc => ?_) (fun hc => ?_)
    · have h := h.1 hc
      refine lv_aload_n hx hb dX3_common_22 rfl (lv_at hl 0 rfl) ?_
      refine x_get (ci := 3) (CN := RX3) (T := TX3) (N := 11) E in_X3 hH 0 wC_g0 rfl 0 (by decide) kf_X3_11 rfl dX3_common_23 ?_
      refine lv_iload_n hx hb dX3_common_26 rfl (lv_at hl 1 rfl) ?_
      obtain ⟨hi6, h⟩ := h
      refine x_aald E hH 1 2 wC_g1 rfl hi6 dX3_common_27 ?_
      refine q_top (ad := ad) (x := co C3 1 (Int32.toNatClampNeg x1)) (fun w5 ew5 => ?_)
      have h := h w5 ew5
      refine q_astore_n (i := 3) (lv' := [(0, .ref (a 0)), (1, .int x1), (2, .int x2)]) hx hb dX3_common_28 rfl hl (by decide) (fun _ => rfl) (fun ls hl => ?_)
      refine lv_aload_n hx hb dX3_common_29 rfl (lv_at hl 1 rfl) ?_
      refine x_get (ci := 3) (CN := RX3) (T := TX3) (N := 11) E in_X3 hH 0 wC_g0 rfl 0 (by decide) kf_X3_11 rfl dX3_common_30 ?_
      refine lv_iload_n hx hb dX3_common_33 rfl (lv_at hl 3 rfl) ?_
      obtain ⟨hi8, h⟩ := h
      refine x_aald E hH 1 2 wC_g1 rfl hi8 dX3_common_34 ?_
      refine q_top (ad := ad) (x := co C3 1 (Int32.toNatClampNeg x2)) (fun w7 ew7 => ?_)
      have h := h w7 ew7
      refine q_astore (i := 4) (lv' := [(3, rv ad w5), (0, .ref (a 0)), (1, .int x1), (2, .int x2)]) hx hb dX3_common_35 hl (by decide) (fun _ => (by simp [rv_cat])) (fun ls hl => ?_)
      obtain ⟨n, h⟩ := h
      exact k_X3_common_37 E  n hH (lv_sub hl [1, 0] rfl) h
    · have h := h.2 hc
      exact k_X3_common_16 E  hH (lv_sub hl [0] rfl) h
end WALKS_D0
