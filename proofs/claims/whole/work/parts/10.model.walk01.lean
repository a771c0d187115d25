section WALKS_M1
variable {p : Program} {l : Launch} {e : Env} {s : State} {m : MethodId} {args : Array Value} {below : List Frame} {meth : Method} {c : Code} {D : va_G} {cI cS cO : ClassId} {a ad : Nat → Nat} {A : Nat → Prop}
set_option maxHeartbeats 4000000 in
set_option maxRecDepth 100000 in
theorem k_X4_turn_98 {post : Int32 → MS → Prop} (E : Cx p s m args meth c cX4_turn 8 RX4 (some .int) D (tyW cI cS cO))  {C : MS}  {H : Heap} {locs : List Loc} {ls : Array Slot} (hH : HX D (wM cI cS a C) A s.heap H locs) (hl : lv_has ls 8 [(0, .ref (a 0))]) (h : w_X4_turn_98 post C ) : W p l e (rmA 2 0 0) s m args below meth c H locs 0 0 (MQ below ((QI D (wM cI cS a) post) A) args s 0 0 A) (F0 m 98 ls []) := by
  have hx := E.1
  have hb := E.2.1
  unfold w_X4_turn_98 at h
  refine lv_aload_n hx hb dX4_turn_98 rfl (lv_at hl 0 rfl) ?_
  refine lv_bipush (v := (-5 : Int32)) hx hb dX4_turn_99 (by decide) ?_
  refine x_ci (x_runV (As := [.int (-5 : Int32)]) (rest := []) E (c_X4_answer h) yk_X4_answer yi_X4_answer km_X4_86 ⟨Nat.le_of_ble_eq_true rfl, Nat.le_of_ble_eq_true rfl⟩ ⟨Nat.le_of_ble_eq_true rfl, Nat.le_of_ble_eq_true rfl⟩ hH (va_recv E.2.2.2.2.2.1 hH.1 (ci := 4) (q0 := 0) rfl wM_g0) hl.1 rfl rfl (lv_room (Nat.le_of_ble_eq_true rfl)) dX4_turn_101) hH (fun r15 C14 H locs h hH => ?_)
  exact x_iret E hH h dX4_turn_104
set_option maxHeartbeats 4000000 in
set_option maxRecDepth 100000 in
theorem k_X4_turn_67 {post : Int32 → MS → Prop} (E : Cx p s m args meth c cX4_turn 8 RX4 (some .int) D (tyW cI cS cO))  {C : MS}  {H : Heap} {locs : List Loc} {ls : Array Slot} (hH : HX D (wM cI cS a C) A s.heap H locs) (hl : lv_has ls 8 [(0, .ref (a 0))]) (h : w_X4_turn_67 post C ) : W p l e (rmA 2 0 0) s m args below meth c H locs 0 0 (MQ below ((QI D (wM cI cS a) post) A) args s 0 0 A) (F0 m 67 ls []) := by
  have hx := E.1
  have hb := E.2.1
  unfold w_X4_turn_67 at h
  refine lv_aload_n hx hb dX4_turn_67 rfl (lv_at hl 0 rfl) ?_
  refine lv_iconst (v := (-1 : Int32)) hx hb dX4_turn_68 (by decide) ?_
  refine x_ci (x_runV (As := [.int (-1 : Int32)]) (rest := []) E (c_X4_answer h) yk_X4_answer yi_X4_answer km_X4_86 ⟨Nat.le_of_ble_eq_true rfl, Nat.le_of_ble_eq_true rfl⟩ ⟨Nat.le_of_ble_eq_true rfl, Nat.le_of_ble_eq_true rfl⟩ hH (va_recv E.2.2.2.2.2.1 hH.1 (ci := 4) (q0 := 0) rfl wM_g0) hl.1 rfl rfl (lv_room (Nat.le_of_ble_eq_true rfl)) dX4_turn_69) hH (fun r13 C12 H locs h hH => ?_)
  exact x_iret E hH h dX4_turn_72
set_option maxHeartbeats 4000000 in
set_option maxRecDepth 100000 in
theorem k_X4_turn_35 {post : Int32 → MS → Prop} (E : Cx p s m args meth c cX4_turn 8 RX4 (some .int) D (tyW cI cS cO))  {C : MS} {s0 : Int32} {H : Heap} {locs : List Loc} {ls : Array Slot} (hH : HX D (wM cI cS a C) A s.heap H locs) (hl : lv_has ls 8 []) (h : w_X4_turn_35 post C s0) : W p l e (rmA 2 0 0) s m args below meth c H locs 0 0 (MQ below ((QI D (wM cI cS a) post) A) args s 0 0 A) (F0 m 35 ls [.int s0, .ref (a 0)]) := by
  have hx := E.1
  have hb := E.2.1
  unfold w_X4_turn_35 at h
  refine x_ci (x_runV (As := [.int s0]) (rest := []) E (c_X4_answer h) yk_X4_answer yi_X4_answer km_X4_86 ⟨Nat.le_of_ble_eq_true rfl, Nat.le_of_ble_eq_true rfl⟩ ⟨Nat.le_of_ble_eq_true rfl, Nat.le_of_ble_eq_true rfl⟩ hH (va_recv E.2.2.2.2.2.1 hH.1 (ci := 4) (q0 := 0) rfl wM_g0) hl.1 rfl rfl (lv_room (Nat.le_of_ble_eq_true rfl)) dX4_turn_35) hH (fun r17 C16 H locs h hH => ?_)
  exact x_iret E hH h dX4_turn_38
set_option maxHeartbeats 4000000 in
set_option maxRecDepth 100000 in
theorem k_X4_turn_22 {post : Int32 → MS → Prop} (E : Cx p s m args meth c cX4_turn 8 RX4 (some .int) D (tyW cI cS cO))  {C : MS} {x5 : Int32} {H : Heap} {locs : List Loc} {ls : Array Slot} (hH : HX D (wM cI cS a C) A s.heap H locs) (hl : lv_has ls 8 [(0, .ref (a 0)), (5, .int x5)]) (h : w_X4_turn_22 post C x5) : W p l e (rmA 2 0 0) s m args below meth c H locs 0 0 (MQ below ((QI D (wM cI cS a) post) A) args s 0 0 A) (F0 m 22 ls []) := by
  have hx := E.1
  have hb := E.2.1
  unfold w_X4_turn_22 at h
  refine lv_aload_n hx hb dX4_turn_22 rfl (lv_at hl 0 rfl) ?_
  refine lv_iload hx hb dX4_turn_23 (lv_at hl 1 rfl) ?_
  refine lv_if_ge (tgt := 33) hx hb dX4_turn_25 (by decide) (fun hc => ?_) (fun hc => ?_)
  · have h := h.1 hc
    refine lv_bipush (v := (-3 : Int32)) hx hb dX4_turn_33 (by decide) ?_
    exact k_X4_turn_35 E  hH (lv_sub hl [] rfl) h
  · have h := h.2 hc
    refine lv_iload hx hb dX4_turn_28 (lv_at hl 1 rfl) ?_
    refine lv_goto (tgt := 35) hx hb dX4_turn_30 (by decide) ?_
    exact k_X4_turn_35 E  hH (lv_sub hl [] rfl) h
set_option maxHeartbeats 4000000 in
set_option maxRecDepth 100000 in
theorem c_X4_turn {l : Launch} {D : va_G} {cI cS cO : ClassId} {a : Nat → Nat} {C : MS} {x1 : Int32} {x2 : Int32} {x3 : Int32} {x4 : Int32} {post : Int32 → MS → Prop} (h : w_X4_turn post C x1 x2 x3 x4) : MetX l D (tyW cI cS cO) yX4_turn cX4_turn 8 (some .int) 2 0 0 [.ref (a 0), .int x1, .int x2, .int x3, .int x4] (wM cI cS a C) (QI D (wM cI cS a) post) := by
  refine x_ent (by decide) (Nat.le_of_ble_eq_true rfl) ?_
  intro p e s m below meth c ls E _ hH hl
  have hx := E.1
  have hb := E.2.1
  generalize va_A (wM cI cS a C) s.heap.size = A at hH ⊢
  have hl : lv_has ls 8 [(0, .ref (a 0)), (1, .int x1), (2, .int x2), (3, .int x3), (4, .int x4)] := hl
  unfold w_X4_turn at h
  refine lv_aload_n hx hb dX4_turn_0 rfl (lv_at hl 0 rfl) ?_
  refine lv_iload_n hx hb dX4_turn_1 rfl (lv_at hl 1 rfl) ?_
  refine x_ci (x_runV (As := [.int x1]) (rest := []) E (c_X4_look h) yk_X4_look yi_X4_look km_X4_72 ⟨Nat.le_of_ble_eq_true rfl, Nat.le_of_ble_eq_true rfl⟩ ⟨Nat.le_of_ble_eq_true rfl, Nat.le_of_ble_eq_true rfl⟩ hH (va_recv E.2.2.2.2.2.1 hH.1 (ci := 4) (q0 := 0) rfl wM_g0) hl.1 rfl rfl (lv_room (Nat.le_of_ble_eq_true rfl)) dX4_turn_2) hH (fun r2 C1 H locs h hH => ?_)
  refine lv_istore (lv' := [(5, .int r2), (0, .ref (a 0)), (1, .int x1), (2, .int x2), (3, .int x3), (4, .int x4)]) hx hb dX4_turn_5 hl (by decide) rfl (fun ls hl => ?_)
  refine lv_iload hx hb dX4_turn_7 (lv_at hl 0 rfl) ?_
  refine lv_if_lt (tgt := 22) hx hb dX4_turn_9 (by decide) (fun hc => ?_) (fun hc => ?_)
  · have h := h.1 hc
    exact k_X4_turn_22 E  hH (lv_sub hl [1, 0] rfl) h
  · have h := h.2 hc
    refine lv_aload_n hx hb dX4_turn_12 rfl (lv_at hl 1 rfl) ?_
    refine x_get (ci := 4) (CN := RX4) (T := TX4) (N := 20) E in_X4 hH 0 wM_g0 rfl 8 (by decide) kf_X4_31 rfl dX4_turn_13 ?_
    refine lv_iload_n hx hb dX4_turn_16 rfl (lv_at hl 2 rfl) ?_
    obtain ⟨hi3, h⟩ := h
    refine x_iald E hH 6 0 wM_g8 rfl hi3 dX4_turn_17 ?_
    refine lv_iconst (v := (1 : Int32)) hx hb dX4_turn_18 (by decide) ?_
    refine lv_icmp_eq (tgt := 39) hx hb dX4_turn_19 (by decide) (fun hc => ?_) (fun hc => ?_)
    · have h := h.1 hc
      refine lv_aload_n hx hb dX4_turn_39 rfl (lv_at hl 1 rfl) ?_
      refine lv_iload_n hx hb dX4_turn_40 rfl (lv_at hl 2 rfl) ?_
      refine x_ci (x_runV (As := [.int x1]) (rest := []) E (c_X4_size h) yk_X4_size yi_X4_size km_X4_68 ⟨Nat.le_of_ble_eq_true rfl, Nat.le_of_ble_eq_true rfl⟩ ⟨Nat.le_of_ble_eq_true rfl, Nat.le_of_ble_eq_true rfl⟩ hH (va_recv E.2.2.2.2.2.1 hH.1 (ci := 4) (q0 := 0) rfl wM_g0) hl.1 rfl rfl (lv_room (Nat.le_of_ble_eq_true rfl)) dX4_turn_41) hH (fun r5 C4 H locs h hH => ?_)
      refine lv_istore (lv' := [(6, .int r5), (5, .int r2), (0, .ref (a 0)), (1, .int x1), (2, .int x2), (3, .int x3), (4, .int x4)]) hx hb dX4_turn_44 hl (by decide) rfl (fun ls hl => ?_)
      refine lv_iload_n hx hb dX4_turn_46 rfl (lv_at hl 4 rfl) ?_
      refine lv_if_lt (tgt := 67) hx hb dX4_turn_47 (by decide) (fun hc => ?_) (fun hc => ?_)
      · have h := h.1 hc
        exact k_X4_turn_67 E  hH (lv_sub hl [2] rfl) h
      · have h := h.2 hc
        refine lv_iload_n hx hb dX4_turn_50 rfl (lv_at hl 4 rfl) ?_
        refine lv_iload hx hb dX4_turn_51 (lv_at hl 0 rfl) ?_
        refine lv_icmp_ge (tgt := 67) hx hb dX4_turn_53 (by decide) (fun hc => ?_) (fun hc => ?_)
        · have h := h.1 hc
          exact k_X4_turn_67 E  hH (lv_sub hl [2] rfl) h
        · have h := h.2 hc
          refine lv_iload_n hx hb dX4_turn_56 rfl (lv_at hl 5 rfl) ?_
          refine lv_if_lt (tgt := 67) hx hb dX4_turn_57 (by decide) (fun hc => ?_) (fun hc => ?_)
          · have h := h.1 hc
            exact k_X4_turn_67 E  hH (lv_sub hl [2] rfl) h
          · have h := h.2 hc
            refine lv_iload_n hx hb dX4_turn_60 rfl (lv_at hl 5 rfl) ?_
            refine lv_sipush (v := (1024 : Int32)) hx hb dX4_turn_61 (by decide) ?_
            refine lv_icmp_lt (tgt := 73) hx hb dX4_turn_64 (by decide) (fun hc => ?_) (fun hc => ?_)
            · have h := h.1 hc
              refine lv_aload_n hx hb dX4_turn_73 rfl (lv_at hl 2 rfl) ?_
              refine x_get (ci := 4) (CN := RX4) (T := TX4) (N := 20) E in_X4 hH 0 wM_g0 rfl 0 (by decide) kf_X4_7 rfl dX4_turn_74 ?_
              refine lv_sipush (v := (500 : Int32)) hx hb dX4_turn_77 (by decide) ?_
              refine lv_icmp_eq (tgt := 98) hx hb dX4_turn_80 (by decide) (fun hc => ?_) (fun hc => ?_)
              · have h := h.1 hc
                exact k_X4_turn_98 E  hH (lv_sub hl [2] rfl) h
              · have h := h.2 hc
                refine lv_aload_n hx hb dX4_turn_83 rfl (lv_at hl 2 rfl) ?_
                refine x_get (ci := 4) (CN := RX4) (T := TX4) (N := 20) E in_X4 hH 0 wM_g0 rfl 7 (by decide) kf_X4_89 rfl dX4_turn_84 ?_
                refine lv_iload hx hb dX4_turn_87 (lv_at hl 0 rfl) ?_
                refine lv_iadd hx hb dX4_turn_89 ?_
                refine lv_iload_n hx hb dX4_turn_90 rfl (lv_at hl 4 rfl) ?_
                refine lv_isub hx hb dX4_turn_91 ?_
                refine lv_sipush (v := (20000 : Int32)) hx hb dX4_turn_92 (by decide) ?_
                refine lv_icmp_le (tgt := 105) hx hb dX4_turn_95 (by decide) (fun hc => ?_) (fun hc => ?_)
                · have h := h.1 hc
                  refine lv_aload_n hx hb dX4_turn_105 rfl (lv_at hl 2 rfl) ?_
                  refine lv_aload_n hx hb dX4_turn_106 rfl (lv_at hl 2 rfl) ?_
                  refine x_get (ci := 4) (CN := RX4) (T := TX4) (N := 20) E in_X4 hH 0 wM_g0 rfl 9 (by decide) kf_X4_34 rfl dX4_turn_107 ?_
                  refine lv_iload_n hx hb dX4_turn_110 rfl (lv_at hl 3 rfl) ?_
                  refine x_iald E hH 7 0 wM_g9 rfl hi3 dX4_turn_111 ?_
                  refine lv_iload hx hb dX4_turn_112 (lv_at hl 0 rfl) ?_
                  refine x_ci (x_runV (As := [.int ((mr C4 9) (Int32.toNatClampNeg x1)), .int r5]) (rest := []) E (c_X4_begin h) yk_X4_begin yi_X4_begin km_X4_92 ⟨Nat.le_of_ble_eq_true rfl, Nat.le_of_ble_eq_true rfl⟩ ⟨Nat.le_of_ble_eq_true rfl, Nat.le_of_ble_eq_true rfl⟩ hH (va_recv E.2.2.2.2.2.1 hH.1 (ci := 4) (q0 := 0) rfl wM_g0) hl.1 rfl rfl (lv_room (Nat.le_of_ble_eq_true rfl)) dX4_turn_114) hH (fun r7 C6 H locs h hH => ?_)
                  refine lv_istore (lv' := [(7, .int r7), (6, .int r5), (5, .int r2), (0, .ref (a 0)), (1, .int x1), (2, .int x2), (3, .int x3), (4, .int x4)]) hx hb dX4_turn_117 hl (by decide) rfl (fun ls hl => ?_)
                  refine lv_aload_n hx hb dX4_turn_119 rfl (lv_at hl 3 rfl) ?_
                  refine x_get (ci := 4) (CN := RX4) (T := TX4) (N := 20) E in_X4 hH 0 wM_g0 rfl 4 (by decide) kf_X4_24 rfl dX4_turn_120 ?_
                  refine lv_aload_n hx hb dX4_turn_123 rfl (lv_at hl 3 rfl) ?_
                  refine x_get (ci := 4) (CN := RX4) (T := TX4) (N := 20) E in_X4 hH 0 wM_g0 rfl 1 (by decide) kf_X4_13 rfl dX4_turn_124 ?_
                  refine lv_iload hx hb dX4_turn_127 (lv_at hl 0 rfl) ?_
                  obtain ⟨hi8, h⟩ := h
                  refine x_iald E hH 1 0 wM_g1 rfl hi8 dX4_turn_129 ?_
                  refine lv_iload_n hx hb dX4_turn_130 rfl (lv_at hl 5 rfl) ?_
                  refine lv_iadd hx hb dX4_turn_131 ?_
                  refine lv_iload_n hx hb dX4_turn_132 rfl (lv_at hl 6 rfl) ?_
                  refine lv_i2s hx hb dX4_turn_133 rfl ?_
                  obtain ⟨hi9, h⟩ := h
                  refine x_sast E hH 4 1 wM_g4 rfl hi9 wM_s4 dX4_turn_134 (fun H locs hH => ?_)
                  refine lv_aload_n hx hb dX4_turn_135 rfl (lv_at hl 3 rfl) ?_
                  refine x_get (ci := 4) (CN := RX4) (T := TX4) (N := 20) E in_X4 hH 0 wM_g0 rfl 5 (by decide) kf_X4_28 rfl dX4_turn_136 ?_
                  refine lv_aload_n hx hb dX4_turn_139 rfl (lv_at hl 3 rfl) ?_
                  refine x_get (ci := 4) (CN := RX4) (T := TX4) (N := 20) E in_X4 hH 0 wM_g0 rfl 1 (by decide) kf_X4_13 rfl dX4_turn_140 ?_
                  refine lv_iload hx hb dX4_turn_143 (lv_at hl 0 rfl) ?_
                  refine x_iald E hH 1 0 wM_g1 rfl hi8 dX4_turn_145 ?_
                  refine lv_iload_n hx hb dX4_turn_146 rfl (lv_at hl 5 rfl) ?_
                  refine lv_iadd hx hb dX4_turn_147 ?_
                  refine lv_iload hx hb dX4_turn_148 (lv_at hl 7 rfl) ?_
                  refine x_iast E hH 5 0 wM_g5 rfl hi9 wM_s5 dX4_turn_150 (fun H locs hH => ?_)
                  refine lv_aload_n hx hb dX4_turn_151 rfl (lv_at hl 3 rfl) ?_
                  refine lv_dup hx hb dX4_turn_152 rfl ?_
                  refine x_get (ci := 4) (CN := RX4) (T := TX4) (N := 20) E in_X4 hH 0 wM_g0 rfl 7 (by decide) kf_X4_89 rfl dX4_turn_153 ?_
                  refine lv_iload hx hb dX4_turn_156 (lv_at hl 1 rfl) ?_
                  refine lv_iload_n hx hb dX4_turn_158 rfl (lv_at hl 5 rfl) ?_
                  refine lv_isub hx hb dX4_turn_159 ?_
                  refine lv_iadd hx hb dX4_turn_160 ?_
                  refine x_puti (ci := 4) (CN := RX4) (T := TX4) (N := 20) E in_X4 tyX4 tyX4_ok nmX4 hH 0 wM_g0 rfl 7 (by decide) kf_X4_89 rfl (by decide +kernel) (Nat.le_of_ble_eq_true rfl) wM_z7 dX4_turn_161 (fun H locs hH => ?_)
                  refine lv_aload_n hx hb dX4_turn_164 rfl (lv_at hl 3 rfl) ?_
                  refine lv_iload hx hb dX4_turn_165 (lv_at hl 0 rfl) ?_
                  refine lv_iload_n hx hb dX4_turn_167 rfl (lv_at hl 4 rfl) ?_
                  refine x_ci (x_runV (As := [.int r7, .int x1]) (rest := []) E (c_X4_finish h) yk_X4_finish yi_X4_finish km_X4_96 ⟨Nat.le_of_ble_eq_true rfl, Nat.le_of_ble_eq_true rfl⟩ ⟨Nat.le_of_ble_eq_true rfl, Nat.le_of_ble_eq_true rfl⟩ hH (va_recv E.2.2.2.2.2.1 hH.1 (ci := 4) (q0 := 0) rfl wM_g0) hl.1 rfl rfl (lv_room (Nat.le_of_ble_eq_true rfl)) dX4_turn_168) hH (fun r11 C10 H locs h hH => ?_)
                  exact x_iret E hH h dX4_turn_171
                · have h := h.2 hc
                  exact k_X4_turn_98 E  hH (lv_sub hl [2] rfl) h
            · have h := h.2 hc
              exact k_X4_turn_67 E  hH (lv_sub hl [2] rfl) h
    · have h := h.2 hc
      exact k_X4_turn_22 E  hH (lv_sub hl [1, 0] rfl) h
set_option maxHeartbeats 4000000 in
set_option maxRecDepth 100000 in
theorem c_X4_isVersion {l : Launch} {D : va_G} {cI cS cO : ClassId} {a : Nat → Nat} {C : MS} {x1 : Int32} {post : Int32 → MS → Prop} (h : w_X4_isVersion post C x1) : MetX l D (tyW cI cS cO) yX4_isVersion cX4_isVersion 2 (some .boolean) 0 0 0 [.ref (a 0), .int x1] (wM cI cS a C) (QI D (wM cI cS a) post) := by
  refine x_ent (by decide) (Nat.le_of_ble_eq_true rfl) ?_
  intro p e s m below meth c ls E _ hH hl
  have hx := E.1
  have hb := E.2.1
  generalize va_A (wM cI cS a C) s.heap.size = A at hH ⊢
  have hl : lv_has ls 2 [(0, .ref (a 0)), (1, .int x1)] := hl
  unfold w_X4_isVersion at h
  refine lv_iload_n hx hb dX4_isVersion_0 rfl (lv_at hl 1 rfl) ?_
  refine lv_if_lt (tgt := 16) hx hb dX4_isVersion_1 (by decide) (fun hc => ?_) (fun hc => ?_)
  · have h := h.1 hc
    refine lv_iconst (v := (0 : Int32)) hx hb dX4_isVersion_16 (by decide) ?_
    exact x_zret E hH h rfl dX4_isVersion_17
  · have h := h.2 hc
    refine lv_iload_n hx hb dX4_isVersion_4 rfl (lv_at hl 1 rfl) ?_
    refine lv_aload_n hx hb dX4_isVersion_5 rfl (lv_at hl 0 rfl) ?_
    refine x_get (ci := 4) (CN := RX4) (T := TX4) (N := 20) E in_X4 hH 0 wM_g0 rfl 0 (by decide) kf_X4_7 rfl dX4_isVersion_6 ?_
    refine lv_icmp_ge (tgt := 16) hx hb dX4_isVersion_9 (by decide) (fun hc => ?_) (fun hc => ?_)
    · have h := h.1 hc
      refine lv_iconst (v := (0 : Int32)) hx hb dX4_isVersion_16 (by decide) ?_
      exact x_zret E hH h rfl dX4_isVersion_17
    · have h := h.2 hc
      refine lv_iconst (v := (1 : Int32)) hx hb dX4_isVersion_12 (by decide) ?_
      refine lv_goto (tgt := 17) hx hb dX4_isVersion_13 (by decide) ?_
      exact x_zret E hH h rfl dX4_isVersion_17
set_option maxHeartbeats 4000000 in
set_option maxRecDepth 100000 in
theorem k_X4_version_15 {post : Int32 → MS → Prop} (E : Cx p s m args meth c cX4_version 3 RX4 (some .int) D (tyW cI cS cO))  {C : MS}  {H : Heap} {locs : List Loc} {ls : Array Slot} (hH : HX D (wM cI cS a C) A s.heap H locs) (hl : lv_has ls 3 [(0, .ref (a 0))]) (h : w_X4_version_15 post C ) : W p l e (rmA 1 0 0) s m args below meth c H locs 0 0 (MQ below ((QI D (wM cI cS a) post) A) args s 0 0 A) (F0 m 15 ls []) := by
  have hx := E.1
  have hb := E.2.1
  unfold w_X4_version_15 at h
  refine lv_aload_n hx hb dX4_version_15 rfl (lv_at hl 0 rfl) ?_
  refine lv_iconst (v := (-1 : Int32)) hx hb dX4_version_16 (by decide) ?_
  refine x_ci (x_runV (As := [.int (-1 : Int32)]) (rest := []) E (c_X4_answer h) yk_X4_answer yi_X4_answer km_X4_86 ⟨Nat.le_of_ble_eq_true rfl, Nat.le_of_ble_eq_true rfl⟩ ⟨Nat.le_of_ble_eq_true rfl, Nat.le_of_ble_eq_true rfl⟩ hH (va_recv E.2.2.2.2.2.1 hH.1 (ci := 4) (q0 := 0) rfl wM_g0) hl.1 rfl rfl (lv_room (Nat.le_of_ble_eq_true rfl)) dX4_version_17) hH (fun r8 C7 H locs h hH => ?_)
  exact x_iret E hH h dX4_version_20
set_option maxHeartbeats 4000000 in
set_option maxRecDepth 100000 in
theorem c_X4_version {l : Launch} {D : va_G} {cI cS cO : ClassId} {a : Nat → Nat} {C : MS} {x1 : Int32} {x2 : Int32} {post : Int32 → MS → Prop} (h : w_X4_version post C x1 x2) : MetX l D (tyW cI cS cO) yX4_version cX4_version 3 (some .int) 1 0 0 [.ref (a 0), .int x1, .int x2] (wM cI cS a C) (QI D (wM cI cS a) post) := by
  refine x_ent (by decide) (Nat.le_of_ble_eq_true rfl) ?_
  intro p e s m below meth c ls E _ hH hl
  have hx := E.1
  have hb := E.2.1
  generalize va_A (wM cI cS a C) s.heap.size = A at hH ⊢
  have hl : lv_has ls 3 [(0, .ref (a 0)), (1, .int x1), (2, .int x2)] := hl
  unfold w_X4_version at h
  refine lv_aload_n hx hb dX4_version_0 rfl (lv_at hl 0 rfl) ?_
  refine lv_iload_n hx hb dX4_version_1 rfl (lv_at hl 1 rfl) ?_
  refine x_ci (x_runV (As := [.int x1]) (rest := []) E (c_X4_isVersion h) yk_X4_isVersion yi_X4_isVersion km_X4_109 ⟨Nat.le_of_ble_eq_true rfl, Nat.le_of_ble_eq_true rfl⟩ ⟨Nat.le_of_ble_eq_true rfl, Nat.le_of_ble_eq_true rfl⟩ hH (va_recv E.2.2.2.2.2.1 hH.1 (ci := 4) (q0 := 0) rfl wM_g0) hl.1 rfl rfl (lv_room (Nat.le_of_ble_eq_true rfl)) dX4_version_2) hH (fun r2 C1 H locs h hH => ?_)
  refine lv_if_eq (tgt := 15) hx hb dX4_version_5 (by decide) (fun hc => ?_) (fun hc => ?_)
  · have h := h.1 hc
    exact k_X4_version_15 E  hH (lv_sub hl [0] rfl) h
  · have h := h.2 hc
    refine lv_iload_n hx hb dX4_version_8 rfl (lv_at hl 2 rfl) ?_
    refine x_ci (x_runS (As := [.int x2]) (rest := []) E (c_X4_isPlace h) yk_X4_isPlace yi_X4_isPlace km_X4_64 ⟨Nat.le_of_ble_eq_true rfl, Nat.le_of_ble_eq_true rfl⟩ ⟨Nat.le_of_ble_eq_true rfl, Nat.le_of_ble_eq_true rfl⟩ hH  hl.1 rfl rfl (lv_room (Nat.le_of_ble_eq_true rfl)) dX4_version_9) hH (fun r4 C3 H locs h hH => ?_)
    refine lv_if_ne (tgt := 21) hx hb dX4_version_12 (by decide) (fun hc => ?_) (fun hc => ?_)
    · have h := h.1 hc
      refine lv_aload_n hx hb dX4_version_21 rfl (lv_at hl 0 rfl) ?_
      refine x_get (ci := 4) (CN := RX4) (T := TX4) (N := 20) E in_X4 hH 0 wM_g0 rfl 8 (by decide) kf_X4_31 rfl dX4_version_22 ?_
      refine lv_iload_n hx hb dX4_version_25 rfl (lv_at hl 2 rfl) ?_
      refine lv_iconst (v := (1 : Int32)) hx hb dX4_version_26 (by decide) ?_
      obtain ⟨hi5, h⟩ := h
      refine x_iast E hH 6 0 wM_g8 rfl hi5 wM_s8 dX4_version_27 (fun H locs hH => ?_)
      refine lv_aload_n hx hb dX4_version_28 rfl (lv_at hl 0 rfl) ?_
      refine x_get (ci := 4) (CN := RX4) (T := TX4) (N := 20) E in_X4 hH 0 wM_g0 rfl 9 (by decide) kf_X4_34 rfl dX4_version_29 ?_
      refine lv_iload_n hx hb dX4_version_32 rfl (lv_at hl 2 rfl) ?_
      refine lv_iload_n hx hb dX4_version_33 rfl (lv_at hl 1 rfl) ?_
      refine x_iast E hH 7 0 wM_g9 rfl hi5 wM_s9 dX4_version_34 (fun H locs hH => ?_)
      refine lv_aload_n hx hb dX4_version_35 rfl (lv_at hl 0 rfl) ?_
      refine x_get (ci := 4) (CN := RX4) (T := TX4) (N := 20) E in_X4 hH 0 wM_g0 rfl 2 (by decide) kf_X4_17 rfl dX4_version_36 ?_
      refine lv_iload_n hx hb dX4_version_39 rfl (lv_at hl 1 rfl) ?_
      obtain ⟨hi6, h⟩ := h
      refine x_iald E hH 2 0 wM_g2 rfl hi6 dX4_version_40 ?_
      exact x_iret E hH h dX4_version_41
    · have h := h.2 hc
      exact k_X4_version_15 E  hH (lv_sub hl [0] rfl) h
set_option maxHeartbeats 4000000 in
set_option maxRecDepth 100000 in
theorem k_X4_about_164b {post : Int32 → MS → Prop} (E : Cx p s m args meth c cX4_about 5 RX4 (some .int) D (tyW cI cS cO))  {K164 : MS → Int32 → Int32 → Prop} (hK164 : ∀ (C : MS) (x3 : Int32) (x4 : Int32) (H : Heap) (locs : List Loc) (ls : Array Slot), HX D (wM cI cS a C) A s.heap H locs → lv_has ls 5 [(0, .ref (a 0)), (3, .int x3), (4, .int x4)] → K164 C x3 x4 → W p l e (rmA 1 0 0) s m args below meth c H locs 0 0 (MQ below ((QI D (wM cI cS a) post) A) args s 0 0 A) (F0 m 164 ls [])) {C : MS} {x3 : Int32} {x4 : Int32} {H : Heap} {locs : List Loc} {ls : Array Slot} (hH : HX D (wM cI cS a C) A s.heap H locs) (hl : lv_has ls 5 [(0, .ref (a 0)), (3, .int x3), (4, .int x4)]) (h : w_X4_about_164b post K164 C x3 x4) : W p l e (rmA 1 0 0) s m args below meth c H locs 0 0 (MQ below ((QI D (wM cI cS a) post) A) args s 0 0 A) (F0 m 164 ls []) := by
  have hx := E.1
  have hb := E.2.1
  unfold w_X4_about_164b at h
  refine lv_iload hx hb dX4_about_164 (lv_at hl 2 rfl) ?_
  refine lv_if_lt (tgt := 184) hx hb dX4_about_166 (by decide) (fun hc => ?_) (fun hc => ?_)
  · have h := h.1 hc
    refine lv_iload_n hx hb dX4_about_184 rfl (lv_at hl 1 rfl) ?_
    exact x_iret E hH h dX4_about_185
  · have h := h.2 hc
    refine lv_iinc (v := (x3 + 1)) (lv' := [(3, .int (x3 + 1)), (0, .ref (a 0)), (4, .int x4)]) hx hb dX4_about_169 hl (k := 1) rfl rfl (by decide) rfl (fun ls hl => ?_)
    refine lv_aload_n hx hb dX4_about_172 rfl (lv_at hl 1 rfl) ?_
    refine x_get (ci := 4) (CN := RX4) (T := TX4) (N := 20) E in_X4 hH 0 wM_g0 rfl 3 (by decide) kf_X4_20 rfl dX4_about_173 ?_
    refine lv_iload hx hb dX4_about_176 (lv_at hl 2 rfl) ?_
    obtain ⟨hi15, h⟩ := h
    refine x_iald E hH 3 0 wM_g3 rfl hi15 dX4_about_178 ?_
    refine lv_istore (lv' := [(4, .int ((mr C 3) (Int32.toNatClampNeg x4))), (3, .int (x3 + 1)), (0, .ref (a 0))]) hx hb dX4_about_179 hl (by decide) rfl (fun ls hl => ?_)
    refine lv_goto (tgt := 164) hx hb dX4_about_181 (by decide) ?_
    exact hK164 _ _ _ _ _ _ hH (lv_sub hl [2, 1, 0] rfl) h
theorem k_X4_about_164 {post : Int32 → MS → Prop} (E : Cx p s m args meth c cX4_about 5 RX4 (some .int) D (tyW cI cS cO))  (n : Nat) : ∀ {C : MS} {x3 : Int32} {x4 : Int32} {H : Heap} {locs : List Loc} {ls : Array Slot} (hH : HX D (wM cI cS a C) A s.heap H locs) (hl : lv_has ls 5 [(0, .ref (a 0)), (3, .int x3), (4, .int x4)]) (h : w_X4_about_164 post n C x3 x4), W p l e (rmA 1 0 0) s m args below meth c H locs 0 0 (MQ below ((QI D (wM cI cS a) post) A) args s 0 0 A) (F0 m 164 ls []) := by
  induction n with
  | zero => intros; contradiction
  | succ n ih => intro C x3 x4 H locs ls hH hl h; exact k_X4_about_164b E  (fun C x3 x4 H locs ls hH hl h => ih hH hl h) hH hl h
set_option maxHeartbeats 4000000 in
set_option maxRecDepth 100000 in
theorem k_X4_about_152 {post : Int32 → MS → Prop} (E : Cx p s m args meth c cX4_about 5 RX4 (some .int) D (tyW cI cS cO)) {K125 : MS → Int32 → Int32 → Int32 → Prop} (hK125 : ∀ (C : MS) (x1 : Int32) (x3 : Int32) (x4 : Int32) (H : Heap) (locs : List Loc) (ls : Array Slot), HX D (wM cI cS a C) A s.heap H locs → lv_has ls 5 [(0, .ref (a 0)), (1, .int x1), (3, .int x3), (4, .int x4)] → K125 C x1 x3 x4 → W p l e (rmA 1 0 0) s m args below meth c H locs 0 0 (MQ below ((QI D (wM cI cS a) post) A) args s 0 0 A) (F0 m 125 ls [])) {C : MS} {x1 : Int32} {x4 : Int32} {s0 : Int32} {H : Heap} {locs : List Loc} {ls : Array Slot} (hH : HX D (wM cI cS a C) A s.heap H locs) (hl : lv_has ls 5 [(0, .ref (a 0)), (1, .int x1), (4, .int x4)]) (h : w_X4_about_152 post K125 C x1 x4 s0) : W p l e (rmA 1 0 0) s m args below meth c H locs 0 0 (MQ below ((QI D (wM cI cS a) post) A) args s 0 0 A) (F0 m 152 ls [.int s0]) := by
  have hx := E.1
  have hb := E.2.1
  unfold w_X4_about_152 at h
  refine lv_istore_n (lv' := [(3, .int s0), (0, .ref (a 0)), (1, .int x1), (4, .int x4)]) hx hb dX4_about_152 rfl hl (by decide) rfl (fun ls hl => ?_)
  refine lv_iinc (v := (x4 + 1)) (lv' := [(4, .int (x4 + 1)), (3, .int s0), (0, .ref (a 0)), (1, .int x1)]) hx hb dX4_about_153 hl (k := 3) rfl rfl (by decide) rfl (fun ls hl => ?_)
  refine lv_goto (tgt := 125) hx hb dX4_about_156 (by decide) ?_
  exact hK125 _ _ _ _ _ _ _ hH (lv_sub hl [2, 3, 1, 0] rfl) h
set_option maxHeartbeats 4000000 in
set_option maxRecDepth 100000 in
theorem k_X4_about_125b {post : Int32 → MS → Prop} (E : Cx p s m args meth c cX4_about 5 RX4 (some .int) D (tyW cI cS cO))  {K125 : MS → Int32 → Int32 → Int32 → Prop} (hK125 : ∀ (C : MS) (x1 : Int32) (x3 : Int32) (x4 : Int32) (H : Heap) (locs : List Loc) (ls : Array Slot), HX D (wM cI cS a C) A s.heap H locs → lv_has ls 5 [(0, .ref (a 0)), (1, .int x1), (3, .int x3), (4, .int x4)] → K125 C x1 x3 x4 → W p l e (rmA 1 0 0) s m args below meth c H locs 0 0 (MQ below ((QI D (wM cI cS a) post) A) args s 0 0 A) (F0 m 125 ls [])) {C : MS} {x1 : Int32} {x3 : Int32} {x4 : Int32} {H : Heap} {locs : List Loc} {ls : Array Slot} (hH : HX D (wM cI cS a C) A s.heap H locs) (hl : lv_has ls 5 [(0, .ref (a 0)), (1, .int x1), (3, .int x3), (4, .int x4)]) (h : w_X4_about_125b post K125 C x1 x3 x4) : W p l e (rmA 1 0 0) s m args below meth c H locs 0 0 (MQ below ((QI D (wM cI cS a) post) A) args s 0 0 A) (F0 m 125 ls []) := by
  have hx := E.1
  have hb := E.2.1
  unfold w_X4_about_125b at h
  refine lv_iload hx hb dX4_about_125 (lv_at hl 3 rfl) ?_
  refine lv_iload_n hx hb dX4_about_127 rfl (lv_at hl 1 rfl) ?_
  refine lv_icmp_ge (tgt := 159) hx hb dX4_about_128 (by decide) (fun hc => ?_) (fun hc => ?_)
  · have h := h.1 hc
    refine lv_iload_n hx hb dX4_about_159 rfl (lv_at hl 2 rfl) ?_
    exact x_iret E hH h dX4_about_160
  · have h := h.2 hc
    refine lv_aload_n hx hb dX4_about_131 rfl (lv_at hl 0 rfl) ?_
    refine x_get (ci := 4) (CN := RX4) (T := TX4) (N := 20) E in_X4 hH 0 wM_g0 rfl 3 (by decide) kf_X4_20 rfl dX4_about_132 ?_
    refine lv_iload hx hb dX4_about_135 (lv_at hl 3 rfl) ?_
    obtain ⟨hi13, h⟩ := h
    refine x_iald E hH 3 0 wM_g3 rfl hi13 dX4_about_137 ?_
    refine lv_aload_n hx hb dX4_about_138 rfl (lv_at hl 0 rfl) ?_
    refine x_get (ci := 4) (CN := RX4) (T := TX4) (N := 20) E in_X4 hH 0 wM_g0 rfl 3 (by decide) kf_X4_20 rfl dX4_about_139 ?_
    refine lv_iload_n hx hb dX4_about_142 rfl (lv_at hl 1 rfl) ?_
    obtain ⟨hi14, h⟩ := h
    refine x_iald E hH 3 0 wM_g3 rfl hi14 dX4_about_143 ?_
    refine lv_icmp_ne (tgt := 151) hx hb dX4_about_144 (by decide) (fun hc => ?_) (fun hc => ?_)
    · have h := h.1 hc
      refine lv_iload_n hx hb dX4_about_151 rfl (lv_at hl 2 rfl) ?_
      exact k_X4_about_152 E hK125 hH (lv_sub hl [0, 1, 3] rfl) h
    · have h := h.2 hc
      refine lv_iconst (v := (1 : Int32)) hx hb dX4_about_147 (by decide) ?_
      refine lv_goto (tgt := 152) hx hb dX4_about_148 (by decide) ?_
      exact k_X4_about_152 E hK125 hH (lv_sub hl [0, 1, 3] rfl) h
theorem k_X4_about_125 {post : Int32 → MS → Prop} (E : Cx p s m args meth c cX4_about 5 RX4 (some .int) D (tyW cI cS cO))  (n : Nat) : ∀ {C : MS} {x1 : Int32} {x3 : Int32} {x4 : Int32} {H : Heap} {locs : List Loc} {ls : Array Slot} (hH : HX D (wM cI cS a C) A s.heap H locs) (hl : lv_has ls 5 [(0, .ref (a 0)), (1, .int x1), (3, .int x3), (4, .int x4)]) (h : w_X4_about_125 post n C x1 x3 x4), W p l e (rmA 1 0 0) s m args below meth c H locs 0 0 (MQ below ((QI D (wM cI cS a) post) A) args s 0 0 A) (F0 m 125 ls []) := by
  induction n with
  | zero => intros; contradiction
  | succ n ih => intro C x1 x3 x4 H locs ls hH hl h; exact k_X4_about_125b E  (fun C x1 x3 x4 H locs ls hH hl h => ih hH hl h) hH hl h
set_option maxHeartbeats 4000000 in
set_option maxRecDepth 100000 in
theorem k_X4_about_112 {post : Int32 → MS → Prop} (E : Cx p s m args meth c cX4_about 5 RX4 (some .int) D (tyW cI cS cO)) {K86 : MS → Int32 → Int32 → Int32 → Prop} (hK86 : ∀ (C : MS) (x1 : Int32) (x3 : Int32) (x4 : Int32) (H : Heap) (locs : List Loc) (ls : Array Slot), HX D (wM cI cS a C) A s.heap H locs → lv_has ls 5 [(0, .ref (a 0)), (1, .int x1), (3, .int x3), (4, .int x4)] → K86 C x1 x3 x4 → W p l e (rmA 1 0 0) s m args below meth c H locs 0 0 (MQ below ((QI D (wM cI cS a) post) A) args s 0 0 A) (F0 m 86 ls [])) {C : MS} {x1 : Int32} {x4 : Int32} {s0 : Int32} {s1 : Int32} {H : Heap} {locs : List Loc} {ls : Array Slot} (hH : HX D (wM cI cS a C) A s.heap H locs) (hl : lv_has ls 5 [(0, .ref (a 0)), (1, .int x1), (4, .int x4)]) (h : w_X4_about_112 post K86 C x1 x4 s0 s1) : W p l e (rmA 1 0 0) s m args below meth c H locs 0 0 (MQ below ((QI D (wM cI cS a) post) A) args s 0 0 A) (F0 m 112 ls [.int s0, .int s1]) := by
  have hx := E.1
  have hb := E.2.1
  unfold w_X4_about_112 at h
  refine lv_iadd hx hb dX4_about_112 ?_
  refine lv_istore_n (lv' := [(3, .int (s1 + s0)), (0, .ref (a 0)), (1, .int x1), (4, .int x4)]) hx hb dX4_about_113 rfl hl (by decide) rfl (fun ls hl => ?_)
  refine lv_iinc (v := (x4 + 1)) (lv' := [(4, .int (x4 + 1)), (3, .int (s1 + s0)), (0, .ref (a 0)), (1, .int x1)]) hx hb dX4_about_114 hl (k := 3) rfl rfl (by decide) rfl (fun ls hl => ?_)
  refine lv_goto (tgt := 86) hx hb dX4_about_117 (by decide) ?_
  exact hK86 _ _ _ _ _ _ _ hH (lv_sub hl [2, 3, 1, 0] rfl) h
set_option maxHeartbeats 4000000 in
set_option maxRecDepth 100000 in
theorem k_X4_about_86b {post : Int32 → MS → Prop} (E : Cx p s m args meth c cX4_about 5 RX4 (some .int) D (tyW cI cS cO))  {K86 : MS → Int32 → Int32 → Int32 → Prop} (hK86 : ∀ (C : MS) (x1 : Int32) (x3 : Int32) (x4 : Int32) (H : Heap) (locs : List Loc) (ls : Array Slot), HX D (wM cI cS a C) A s.heap H locs → lv_has ls 5 [(0, .ref (a 0)), (1, .int x1), (3, .int x3), (4, .int x4)] → K86 C x1 x3 x4 → W p l e (rmA 1 0 0) s m args below meth c H locs 0 0 (MQ below ((QI D (wM cI cS a) post) A) args s 0 0 A) (F0 m 86 ls [])) {C : MS} {x1 : Int32} {x3 : Int32} {x4 : Int32} {H : Heap} {locs : List Loc} {ls : Array Slot} (hH : HX D (wM cI cS a C) A s.heap H locs) (hl : lv_has ls 5 [(0, .ref (a 0)), (1, .int x1), (3, .int x3), (4, .int x4)]) (h : w_X4_about_86b post K86 C x1 x3 x4) : W p l e (rmA 1 0 0) s m args below meth c H locs 0 0 (MQ below ((QI D (wM cI cS a) post) A) args s 0 0 A) (F0 m 86 ls []) := by
  have hx := E.1
  have hb := E.2.1
  unfold w_X4_about_86b at h
  refine lv_iload hx hb dX4_about_86 (lv_at hl 3 rfl) ?_
  refine lv_aload_n hx hb dX4_about_88 rfl (lv_at hl 0 rfl) ?_
  refine x_get (ci := 4) (CN := RX4) (T := TX4) (N := 20) E in_X4 hH 0 wM_g0 rfl 0 (by decide) kf_X4_7 rfl dX4_about_89 ?_
  refine lv_icmp_ge (tgt := 120) hx hb dX4_about_92 (by decide) (fun hc => ?_) (fun hc => ?_)
  · have h := h.1 hc
    refine lv_iload_n hx hb dX4_about_120 rfl (lv_at hl 2 rfl) ?_
    exact x_iret E hH h dX4_about_121
  · have h := h.2 hc
    refine lv_iload_n hx hb dX4_about_95 rfl (lv_at hl 2 rfl) ?_
    refine lv_aload_n hx hb dX4_about_96 rfl (lv_at hl 0 rfl) ?_
    refine x_get (ci := 4) (CN := RX4) (T := TX4) (N := 20) E in_X4 hH 0 wM_g0 rfl 3 (by decide) kf_X4_20 rfl dX4_about_97 ?_
    refine lv_iload hx hb dX4_about_100 (lv_at hl 3 rfl) ?_
    obtain ⟨hi12, h⟩ := h
    refine x_iald E hH 3 0 wM_g3 rfl hi12 dX4_about_102 ?_
    refine lv_iload_n hx hb dX4_about_103 rfl (lv_at hl 1 rfl) ?_
    refine lv_icmp_ne (tgt := 111) hx hb dX4_about_104 (by decide) (fun hc => ?_) (fun hc => ?_)
    · have h := h.1 hc
      refine lv_iconst (v := (0 : Int32)) hx hb dX4_about_111 (by decide) ?_
      exact k_X4_about_112 E hK86 hH (lv_sub hl [0, 1, 3] rfl) h
    · have h := h.2 hc
      refine lv_iconst (v := (1 : Int32)) hx hb dX4_about_107 (by decide) ?_
      refine lv_goto (tgt := 112) hx hb dX4_about_108 (by decide) ?_
      exact k_X4_about_112 E hK86 hH (lv_sub hl [0, 1, 3] rfl) h
theorem k_X4_about_86 {post : Int32 → MS → Prop} (E : Cx p s m args meth c cX4_about 5 RX4 (some .int) D (tyW cI cS cO))  (n : Nat) : ∀ {C : MS} {x1 : Int32} {x3 : Int32} {x4 : Int32} {H : Heap} {locs : List Loc} {ls : Array Slot} (hH : HX D (wM cI cS a C) A s.heap H locs) (hl : lv_has ls 5 [(0, .ref (a 0)), (1, .int x1), (3, .int x3), (4, .int x4)]) (h : w_X4_about_86 post n C x1 x3 x4), W p l e (rmA 1 0 0) s m args below meth c H locs 0 0 (MQ below ((QI D (wM cI cS a) post) A) args s 0 0 A) (F0 m 86 ls []) := by
  induction n with
  | zero => intros; contradiction
  | succ n ih => intro C x1 x3 x4 H locs ls hH hl h; exact k_X4_about_86b E  (fun C x1 x3 x4 H locs ls hH hl h => ih hH hl h) hH hl h
set_option maxHeartbeats 4000000 in
set_option maxRecDepth 100000 in
theorem k_X4_about_17 {post : Int32 → MS → Prop} (E : Cx p s m args meth c cX4_about 5 RX4 (some .int) D (tyW cI cS cO))  {C : MS}  {H : Heap} {locs : List Loc} {ls : Array Slot} (hH : HX D (wM cI cS a C) A s.heap H locs) (hl : lv_has ls 5 [(0, .ref (a 0))]) (h : w_X4_about_17 post C ) : W p l e (rmA 1 0 0) s m args below meth c H locs 0 0 (MQ below ((QI D (wM cI cS a) post) A) args s 0 0 A) (F0 m 17 ls []) := by
  have hx := E.1
  have hb := E.2.1
  unfold w_X4_about_17 at h
  refine lv_aload_n hx hb dX4_about_17 rfl (lv_at hl 0 rfl) ?_
  refine lv_iconst (v := (-1 : Int32)) hx hb dX4_about_18 (by decide) ?_
  refine x_ci (x_runV (As := [.int (-1 : Int32)]) (rest := []) E (c_X4_answer h) yk_X4_answer yi_X4_answer km_X4_86 ⟨Nat.le_of_ble_eq_true rfl, Nat.le_of_ble_eq_true rfl⟩ ⟨Nat.le_of_ble_eq_true rfl, Nat.le_of_ble_eq_true rfl⟩ hH (va_recv E.2.2.2.2.2.1 hH.1 (ci := 4) (q0 := 0) rfl wM_g0) hl.1 rfl rfl (lv_room (Nat.le_of_ble_eq_true rfl)) dX4_about_19) hH (fun r11 C10 H locs h hH => ?_)
  exact x_iret E hH h dX4_about_22
set_option maxHeartbeats 4000000 in
set_option maxRecDepth 100000 in
theorem c_X4_about {l : Launch} {D : va_G} {cI cS cO : ClassId} {a : Nat → Nat} {C : MS} {x1 : Int32} {x2 : Int32} {post : Int32 → MS → Prop} (h : w_X4_about post C x1 x2) : MetX l D (tyW cI cS cO) yX4_about cX4_about 5 (some .int) 1 0 0 [.ref (a 0), .int x1, .int x2] (wM cI cS a C) (QI D (wM cI cS a) post) := by
  refine x_ent (by decide) (Nat.le_of_ble_eq_true rfl) ?_
  intro p e s m below meth c ls E _ hH hl
  have hx := E.1
  have hb := E.2.1
  generalize va_A (wM cI cS a C) s.heap.size = A at hH ⊢
  have hl : lv_has ls 5 [(0, .ref (a 0)), (1, .int x1), (2, .int x2)] := hl
  unfold w_X4_about at h
  refine lv_aload_n hx hb dX4_about_0 rfl (lv_at hl 0 rfl) ?_
  refine lv_iload_n hx hb dX4_about_1 rfl (lv_at hl 1 rfl) ?_
  refine x_ci (x_runV (As := [.int x1]) (rest := []) E (c_X4_isVersion h) yk_X4_isVersion yi_X4_isVersion km_X4_109 ⟨Nat.le_of_ble_eq_true rfl, Nat.le_of_ble_eq_true rfl⟩ ⟨Nat.le_of_ble_eq_true rfl, Nat.le_of_ble_eq_true rfl⟩ hH (va_recv E.2.2.2.2.2.1 hH.1 (ci := 4) (q0 := 0) rfl wM_g0) hl.1 rfl rfl (lv_room (Nat.le_of_ble_eq_true rfl)) dX4_about_2) hH (fun r2 C1 H locs h hH => ?_)
  refine lv_if_eq (tgt := 17) hx hb dX4_about_5 (by decide) (fun hc => ?_) (fun hc => ?_)
  · have h := h.1 hc
    exact k_X4_about_17 E  hH (lv_sub hl [0] rfl) h
  · have h := h.2 hc
    refine lv_iload_n hx hb dX4_about_8 rfl (lv_at hl 2 rfl) ?_
    refine lv_if_lt (tgt := 17) hx hb dX4_about_9 (by decide) (fun hc => ?_) (fun hc => ?_)
    · have h := h.1 hc
      exact k_X4_about_17 E  hH (lv_sub hl [0] rfl) h
    · have h := h.2 hc
      refine lv_iload_n hx hb dX4_about_12 rfl (lv_at hl 2 rfl) ?_
      refine lv_iconst (v := (4 : Int32)) hx hb dX4_about_13 (by decide) ?_
      refine lv_icmp_le (tgt := 23) hx hb dX4_about_14 (by decide) (fun hc => ?_) (fun hc => ?_)
      · have h := h.1 hc
        refine lv_iconst (v := (0 : Int32)) hx hb dX4_about_23 (by decide) ?_
        refine lv_istore_n (lv' := [(3, .int (0 : Int32)), (0, .ref (a 0)), (1, .int x1), (2, .int x2)]) hx hb dX4_about_24 rfl hl (by decide) rfl (fun ls hl => ?_)
        refine lv_iload_n hx hb dX4_about_25 rfl (lv_at hl 3 rfl) ?_
        by_cases hs0 : x2 = 0
        · refine lv_tableIn (off := 30) (tgt := 56) hx hb dX4_about_26 (by rw [hs0]; decide) (by rw [hs0]; decide) (by rw [hs0]; rfl) (by decide) ?_
          have h := h.1 hs0
          refine lv_aload_n hx hb dX4_about_56 rfl (lv_at hl 1 rfl) ?_
          refine x_get (ci := 4) (CN := RX4) (T := TX4) (N := 20) E in_X4 hH 0 wM_g0 rfl 2 (by decide) kf_X4_17 rfl dX4_about_57 ?_
          refine lv_iload_n hx hb dX4_about_60 rfl (lv_at hl 2 rfl) ?_
          obtain ⟨hi3, h⟩ := h
          refine x_iald E hH 2 0 wM_g2 rfl hi3 dX4_about_61 ?_
          exact x_iret E hH h dX4_about_62
        · by_cases hs1 : x2 = 1
          · refine lv_tableIn (off := 37) (tgt := 63) hx hb dX4_about_26 (by rw [hs1]; decide) (by rw [hs1]; decide) (by rw [hs1]; rfl) (by decide) ?_
            have h := h.2.1 hs1
            refine lv_iload_n hx hb dX4_about_63 rfl (lv_at hl 2 rfl) ?_
            refine lv_if_ne (tgt := 76) hx hb dX4_about_64 (by decide) (fun hc => ?_) (fun hc => ?_)
            · have h := h.1 hc
              refine lv_aload_n hx hb dX4_about_76 rfl (lv_at hl 1 rfl) ?_
              refine x_get (ci := 4) (CN := RX4) (T := TX4) (N := 20) E in_X4 hH 0 wM_g0 rfl 3 (by decide) kf_X4_20 rfl dX4_about_77 ?_
              refine lv_iload_n hx hb dX4_about_80 rfl (lv_at hl 2 rfl) ?_
              obtain ⟨hi4, h⟩ := h
              refine x_iald E hH 3 0 wM_g3 rfl hi4 dX4_about_81 ?_
              exact x_iret E hH h dX4_about_82
            · have h := h.2 hc
              refine lv_aload_n hx hb dX4_about_67 rfl (lv_at hl 1 rfl) ?_
              refine lv_bipush (v := (-6 : Int32)) hx hb dX4_about_68 (by decide) ?_
              refine x_ci (x_runV (As := [.int (-6 : Int32)]) (rest := []) E (c_X4_answer h) yk_X4_answer yi_X4_answer km_X4_86 ⟨Nat.le_of_ble_eq_true rfl, Nat.le_of_ble_eq_true rfl⟩ ⟨Nat.le_of_ble_eq_true rfl, Nat.le_of_ble_eq_true rfl⟩ hH (va_recv E.2.2.2.2.2.1 hH.1 (ci := 4) (q0 := 0) rfl wM_g0) hl.1 rfl rfl (lv_room (Nat.le_of_ble_eq_true rfl)) dX4_about_70) hH (fun r6 C5 H locs h hH => ?_)
              refine lv_goto (tgt := 82) hx hb dX4_about_73 (by decide) ?_
              exact x_iret E hH h dX4_about_82
          · by_cases hs2 : x2 = 2
            · refine lv_tableIn (off := 57) (tgt := 83) hx hb dX4_about_26 (by rw [hs2]; decide) (by rw [hs2]; decide) (by rw [hs2]; rfl) (by decide) ?_
              have h := h.2.2.1 hs2
              refine lv_iconst (v := (1 : Int32)) hx hb dX4_about_83 (by decide) ?_
              refine lv_istore (lv' := [(4, .int (1 : Int32)), (3, .int (0 : Int32)), (0, .ref (a 0)), (1, .int x1), (2, .int x2)]) hx hb dX4_about_84 hl (by decide) rfl (fun ls hl => ?_)
              obtain ⟨n, h⟩ := h
              exact k_X4_about_86 E  n hH (lv_sub hl [2, 3, 1, 0] rfl) h
            · by_cases hs3 : x2 = 3
              · refine lv_tableIn (off := 96) (tgt := 122) hx hb dX4_about_26 (by rw [hs3]; decide) (by rw [hs3]; decide) (by rw [hs3]; rfl) (by decide) ?_
                have h := h.2.2.2.1 hs3
                refine lv_iconst (v := (1 : Int32)) hx hb dX4_about_122 (by decide) ?_
                refine lv_istore (lv' := [(4, .int (1 : Int32)), (3, .int (0 : Int32)), (0, .ref (a 0)), (1, .int x1), (2, .int x2)]) hx hb dX4_about_123 hl (by decide) rfl (fun ls hl => ?_)
                obtain ⟨n, h⟩ := h
                exact k_X4_about_125 E  n hH (lv_sub hl [2, 3, 1, 0] rfl) h
              · refine lv_tableOut (tgt := 161) hx hb dX4_about_26 (by have := lv_neT hs0 (a := 0) (by decide); have := lv_neT hs1 (a := 1) (by decide); have := lv_neT hs2 (a := 2) (by decide); have := lv_neT hs3 (a := 3) (by decide); omega) (by decide) ?_
                have h := h.2.2.2.2 hs0 hs1 hs2 hs3
                refine lv_iload_n hx hb dX4_about_161 rfl (lv_at hl 2 rfl) ?_
                refine lv_istore (lv' := [(4, .int x1), (3, .int (0 : Int32)), (0, .ref (a 0)), (1, .int x1), (2, .int x2)]) hx hb dX4_about_162 hl (by decide) rfl (fun ls hl => ?_)
                obtain ⟨n, h⟩ := h
                exact k_X4_about_164 E  n hH (lv_sub hl [2, 1, 0] rfl) h
      · have h := h.2 hc
        exact k_X4_about_17 E  hH (lv_sub hl [0] rfl) h
set_option maxHeartbeats 4000000 in
set_option maxRecDepth 100000 in
theorem k_X4_isAncestor_21 {post : Int32 → MS → Prop} (E : Cx p s m args meth c cX4_isAncestor 4 RX4 (some .boolean) D (tyW cI cS cO))  {C : MS} {x1 : Int32} {x3 : Int32} {H : Heap} {locs : List Loc} {ls : Array Slot} (hH : HX D (wM cI cS a C) A s.heap H locs) (hl : lv_has ls 4 [(1, .int x1), (3, .int x3)]) (h : w_X4_isAncestor_21 post C x1 x3) : W p l e (rmA 0 0 0) s m args below meth c H locs 0 0 (MQ below ((QI D (wM cI cS a) post) A) args s 0 0 A) (F0 m 21 ls []) := by
  have hx := E.1
  have hb := E.2.1
  unfold w_X4_isAncestor_21 at h
  refine lv_iload_n hx hb dX4_isAncestor_21 rfl (lv_at hl 1 rfl) ?_
  refine lv_iload_n hx hb dX4_isAncestor_22 rfl (lv_at hl 0 rfl) ?_
  refine lv_icmp_ne (tgt := 30) hx hb dX4_isAncestor_23 (by decide) (fun hc => ?_) (fun hc => ?_)
  · have h := h.1 hc
    refine lv_iconst (v := (0 : Int32)) hx hb dX4_isAncestor_30 (by decide) ?_
    exact x_zret E hH h rfl dX4_isAncestor_31
  · have h := h.2 hc
    refine lv_iconst (v := (1 : Int32)) hx hb dX4_isAncestor_26 (by decide) ?_
    refine lv_goto (tgt := 31) hx hb dX4_isAncestor_27 (by decide) ?_
    exact x_zret E hH h rfl dX4_isAncestor_31
set_option maxHeartbeats 4000000 in
set_option maxRecDepth 100000 in
theorem k_X4_isAncestor_2b {post : Int32 → MS → Prop} (E : Cx p s m args meth c cX4_isAncestor 4 RX4 (some .boolean) D (tyW cI cS cO))  {K2 : MS → Int32 → Int32 → Prop} (hK2 : ∀ (C : MS) (x1 : Int32) (x3 : Int32) (H : Heap) (locs : List Loc) (ls : Array Slot), HX D (wM cI cS a C) A s.heap H locs → lv_has ls 4 [(0, .ref (a 0)), (1, .int x1), (3, .int x3)] → K2 C x1 x3 → W p l e (rmA 0 0 0) s m args below meth c H locs 0 0 (MQ below ((QI D (wM cI cS a) post) A) args s 0 0 A) (F0 m 2 ls [])) {C : MS} {x1 : Int32} {x3 : Int32} {H : Heap} {locs : List Loc} {ls : Array Slot} (hH : HX D (wM cI cS a C) A s.heap H locs) (hl : lv_has ls 4 [(0, .ref (a 0)), (1, .int x1), (3, .int x3)]) (h : w_X4_isAncestor_2b post K2 C x1 x3) : W p l e (rmA 0 0 0) s m args below meth c H locs 0 0 (MQ below ((QI D (wM cI cS a) post) A) args s 0 0 A) (F0 m 2 ls []) := by
  have hx := E.1
  have hb := E.2.1
  unfold w_X4_isAncestor_2b at h
  refine lv_iload_n hx hb dX4_isAncestor_2 rfl (lv_at hl 2 rfl) ?_
  refine lv_if_lt (tgt := 21) hx hb dX4_isAncestor_3 (by decide) (fun hc => ?_) (fun hc => ?_)
  · have h := h.1 hc
    exact k_X4_isAncestor_21 E  hH (lv_sub hl [1, 2] rfl) h
  · have h := h.2 hc
    refine lv_iload_n hx hb dX4_isAncestor_6 rfl (lv_at hl 2 rfl) ?_
    refine lv_iload_n hx hb dX4_isAncestor_7 rfl (lv_at hl 1 rfl) ?_
    refine lv_icmp_eq (tgt := 21) hx hb dX4_isAncestor_8 (by decide) (fun hc => ?_) (fun hc => ?_)
    · have h := h.1 hc
      exact k_X4_isAncestor_21 E  hH (lv_sub hl [1, 2] rfl) h
    · have h := h.2 hc
      refine lv_aload_n hx hb dX4_isAncestor_11 rfl (lv_at hl 0 rfl) ?_
      refine x_get (ci := 4) (CN := RX4) (T := TX4) (N := 20) E in_X4 hH 0 wM_g0 rfl 3 (by decide) kf_X4_20 rfl dX4_isAncestor_12 ?_
      refine lv_iload_n hx hb dX4_isAncestor_15 rfl (lv_at hl 2 rfl) ?_
      obtain ⟨hi2, h⟩ := h
      refine x_iald E hH 3 0 wM_g3 rfl hi2 dX4_isAncestor_16 ?_
      refine lv_istore_n (lv' := [(3, .int ((mr C 3) (Int32.toNatClampNeg x3))), (0, .ref (a 0)), (1, .int x1)]) hx hb dX4_isAncestor_17 rfl hl (by decide) rfl (fun ls hl => ?_)
      refine lv_goto (tgt := 2) hx hb dX4_isAncestor_18 (by decide) ?_
      exact hK2 _ _ _ _ _ _ hH (lv_sub hl [1, 2, 0] rfl) h
theorem k_X4_isAncestor_2 {post : Int32 → MS → Prop} (E : Cx p s m args meth c cX4_isAncestor 4 RX4 (some .boolean) D (tyW cI cS cO))  (n : Nat) : ∀ {C : MS} {x1 : Int32} {x3 : Int32} {H : Heap} {locs : List Loc} {ls : Array Slot} (hH : HX D (wM cI cS a C) A s.heap H locs) (hl : lv_has ls 4 [(0, .ref (a 0)), (1, .int x1), (3, .int x3)]) (h : w_X4_isAncestor_2 post n C x1 x3), W p l e (rmA 0 0 0) s m args below meth c H locs 0 0 (MQ below ((QI D (wM cI cS a) post) A) args s 0 0 A) (F0 m 2 ls []) := by
  induction n with
  | zero => intros; contradiction
  | succ n ih => intro C x1 x3 H locs ls hH hl h; exact k_X4_isAncestor_2b E  (fun C x1 x3 H locs ls hH hl h => ih hH hl h) hH hl h
set_option maxHeartbeats 4000000 in
set_option maxRecDepth 100000 in
theorem c_X4_isAncestor {l : Launch} {D : va_G} {cI cS cO : ClassId} {a : Nat → Nat} {C : MS} {x1 : Int32} {x2 : Int32} {post : Int32 → MS → Prop} (h : w_X4_isAncestor post C x1 x2) : MetX l D (tyW cI cS cO) yX4_isAncestor cX4_isAncestor 4 (some .boolean) 0 0 0 [.ref (a 0), .int x1, .int x2] (wM cI cS a C) (QI D (wM cI cS a) post) := by
  refine x_ent (by decide) (Nat.le_of_ble_eq_true rfl) ?_
  intro p e s m below meth c ls E _ hH hl
  have hx := E.1
  have hb := E.2.1
  generalize va_A (wM cI cS a C) s.heap.size = A at hH ⊢
  have hl : lv_has ls 4 [(0, .ref (a 0)), (1, .int x1), (2, .int x2)] := hl
  unfold w_X4_isAncestor at h
  refine lv_iload_n hx hb dX4_isAncestor_0 rfl (lv_at hl 2 rfl) ?_
  refine lv_istore_n (lv' := [(3, .int x2), (0, .ref (a 0)), (1, .int x1), (2, .int x2)]) hx hb dX4_isAncestor_1 rfl hl (by decide) rfl (fun ls hl => ?_)
  obtain ⟨n, h⟩ := h
  exact k_X4_isAncestor_2 E  n hH (lv_sub hl [1, 2, 0] rfl) h
set_option maxHeartbeats 4000000 in
set_option maxRecDepth 100000 in
theorem k_X4_common_62 {post : Int32 → MS → Prop} (E : Cx p s m args meth c cX4_common 5 RX4 (some .int) D (tyW cI cS cO)) {K27 : MS → Int32 → Int32 → Int32 → Int32 → Prop} (hK27 : ∀ (C : MS) (x1 : Int32) (x2 : Int32) (x3 : Int32) (x4 : Int32) (H : Heap) (locs : List Loc) (ls : Array Slot), HX D (wM cI cS a C) A s.heap H locs → lv_has ls 5 [(0, .ref (a 0)), (1, .int x1), (2, .int x2), (3, .int x3), (4, .int x4)] → K27 C x1 x2 x3 x4 → W p l e (rmA 1 0 0) s m args below meth c H locs 0 0 (MQ below ((QI D (wM cI cS a) post) A) args s 0 0 A) (F0 m 27 ls [])) {C : MS} {x1 : Int32} {x2 : Int32} {x4 : Int32} {s0 : Int32} {H : Heap} {locs : List Loc} {ls : Array Slot} (hH : HX D (wM cI cS a C) A s.heap H locs) (hl : lv_has ls 5 [(0, .ref (a 0)), (1, .int x1), (2, .int x2), (4, .int x4)]) (h : w_X4_common_62 post K27 C x1 x2 x4 s0) : W p l e (rmA 1 0 0) s m args below meth c H locs 0 0 (MQ below ((QI D (wM cI cS a) post) A) args s 0 0 A) (F0 m 62 ls [.int s0]) := by
  have hx := E.1
  have hb := E.2.1
  unfold w_X4_common_62 at h
  refine lv_istore_n (lv' := [(3, .int s0), (0, .ref (a 0)), (1, .int x1), (2, .int x2), (4, .int x4)]) hx hb dX4_common_62 rfl hl (by decide) rfl (fun ls hl => ?_)
  refine lv_iinc (v := (x4 + 1)) (lv' := [(4, .int (x4 + 1)), (3, .int s0), (0, .ref (a 0)), (1, .int x1), (2, .int x2)]) hx hb dX4_common_63 hl (k := 4) rfl rfl (by decide) rfl (fun ls hl => ?_)
  refine lv_goto (tgt := 27) hx hb dX4_common_66 (by decide) ?_
  exact hK27 _ _ _ _ _ _ _ _ hH (lv_sub hl [2, 3, 4, 1, 0] rfl) h
set_option maxHeartbeats 4000000 in
set_option maxRecDepth 100000 in
theorem k_X4_common_61 {post : Int32 → MS → Prop} (E : Cx p s m args meth c cX4_common 5 RX4 (some .int) D (tyW cI cS cO)) {K27 : MS → Int32 → Int32 → Int32 → Int32 → Prop} (hK27 : ∀ (C : MS) (x1 : Int32) (x2 : Int32) (x3 : Int32) (x4 : Int32) (H : Heap) (locs : List Loc) (ls : Array Slot), HX D (wM cI cS a C) A s.heap H locs → lv_has ls 5 [(0, .ref (a 0)), (1, .int x1), (2, .int x2), (3, .int x3), (4, .int x4)] → K27 C x1 x2 x3 x4 → W p l e (rmA 1 0 0) s m args below meth c H locs 0 0 (MQ below ((QI D (wM cI cS a) post) A) args s 0 0 A) (F0 m 27 ls [])) {C : MS} {x1 : Int32} {x2 : Int32} {x3 : Int32} {x4 : Int32} {H : Heap} {locs : List Loc} {ls : Array Slot} (hH : HX D (wM cI cS a C) A s.heap H locs) (hl : lv_has ls 5 [(0, .ref (a 0)), (1, .int x1), (2, .int x2), (3, .int x3), (4, .int x4)]) (h : w_X4_common_61 post K27 C x1 x2 x3 x4) : W p l e (rmA 1 0 0) s m args below meth c H locs 0 0 (MQ below ((QI D (wM cI cS a) post) A) args s 0 0 A) (F0 m 61 ls []) := by
  have hx := E.1
  have hb := E.2.1
  unfold w_X4_common_61 at h
  refine lv_iload_n hx hb dX4_common_61 rfl (lv_at hl 3 rfl) ?_
  exact k_X4_common_62 E hK27 hH (lv_sub hl [0, 1, 2, 4] rfl) h
set_option maxHeartbeats 4000000 in
set_option maxRecDepth 100000 in
theorem k_X4_common_27b {post : Int32 → MS → Prop} (E : Cx p s m args meth c cX4_common 5 RX4 (some .int) D (tyW cI cS cO))  {K27 : MS → Int32 → Int32 → Int32 → Int32 → Prop} (hK27 : ∀ (C : MS) (x1 : Int32) (x2 : Int32) (x3 : Int32) (x4 : Int32) (H : Heap) (locs : List Loc) (ls : Array Slot), HX D (wM cI cS a C) A s.heap H locs → lv_has ls 5 [(0, .ref (a 0)), (1, .int x1), (2, .int x2), (3, .int x3), (4, .int x4)] → K27 C x1 x2 x3 x4 → W p l e (rmA 1 0 0) s m args below meth c H locs 0 0 (MQ below ((QI D (wM cI cS a) post) A) args s 0 0 A) (F0 m 27 ls [])) {C : MS} {x1 : Int32} {x2 : Int32} {x3 : Int32} {x4 : Int32} {H : Heap} {locs : List Loc} {ls : Array Slot} (hH : HX D (wM cI cS a C) A s.heap H locs) (hl : lv_has ls 5 [(0, .ref (a 0)), (1, .int x1), (2, .int x2), (3, .int x3), (4, .int x4)]) (h : w_X4_common_27b post K27 C x1 x2 x3 x4) : W p l e (rmA 1 0 0) s m args below meth c H locs 0 0 (MQ below ((QI D (wM cI cS a) post) A) args s 0 0 A) (F0 m 27 ls []) := by
  have hx := E.1
  have hb := E.2.1
  unfold w_X4_common_27b at h
  refine lv_iload hx hb dX4_common_27 (lv_at hl 4 rfl) ?_
  refine lv_aload_n hx hb dX4_common_29 rfl (lv_at hl 0 rfl) ?_
  refine x_get (ci := 4) (CN := RX4) (T := TX4) (N := 20) E in_X4 hH 0 wM_g0 rfl 0 (by decide) kf_X4_7 rfl dX4_common_30 ?_
  refine lv_icmp_ge (tgt := 69) hx hb dX4_common_33 (by decide) (fun hc => ?_) (fun hc => ?_)
  · have h := h.1 hc
    refine lv_iload_n hx hb dX4_common_69 rfl (lv_at hl 3 rfl) ?_
    exact x_iret E hH h dX4_common_70
  · have h := h.2 hc
    refine lv_aload_n hx hb dX4_common_36 rfl (lv_at hl 0 rfl) ?_
    refine lv_iload hx hb dX4_common_37 (lv_at hl 4 rfl) ?_
    refine lv_iload_n hx hb dX4_common_39 rfl (lv_at hl 1 rfl) ?_
    refine x_ci (x_runV (As := [.int x4, .int x1]) (rest := []) E (c_X4_isAncestor h) yk_X4_isAncestor yi_X4_isAncestor km_X4_112 ⟨Nat.le_of_ble_eq_true rfl, Nat.le_of_ble_eq_true rfl⟩ ⟨Nat.le_of_ble_eq_true rfl, Nat.le_of_ble_eq_true rfl⟩ hH (va_recv E.2.2.2.2.2.1 hH.1 (ci := 4) (q0 := 0) rfl wM_g0) hl.1 rfl rfl (lv_room (Nat.le_of_ble_eq_true rfl)) dX4_common_40) hH (fun r9 C8 H locs h hH => ?_)
    refine lv_if_eq (tgt := 61) hx hb dX4_common_43 (by decide) (fun hc => ?_) (fun hc => ?_)
    · have h := h.1 hc
      exact k_X4_common_61 E hK27 hH (lv_sub hl [0, 1, 2, 3, 4] rfl) h
    · have h := h.2 hc
      refine lv_aload_n hx hb dX4_common_46 rfl (lv_at hl 0 rfl) ?_
      refine lv_iload hx hb dX4_common_47 (lv_at hl 4 rfl) ?_
      refine lv_iload_n hx hb dX4_common_49 rfl (lv_at hl 2 rfl) ?_
      refine x_ci (x_runV (As := [.int x4, .int x2]) (rest := []) E (c_X4_isAncestor h) yk_X4_isAncestor yi_X4_isAncestor km_X4_112 ⟨Nat.le_of_ble_eq_true rfl, Nat.le_of_ble_eq_true rfl⟩ ⟨Nat.le_of_ble_eq_true rfl, Nat.le_of_ble_eq_true rfl⟩ hH (va_recv E.2.2.2.2.2.1 hH.1 (ci := 4) (q0 := 0) rfl wM_g0) hl.1 rfl rfl (lv_room (Nat.le_of_ble_eq_true rfl)) dX4_common_50) hH (fun r11 C10 H locs h hH => ?_)
      refine lv_if_eq (tgt := 61) hx hb dX4_common_53 (by decide) (fun hc => ?_) (fun hc => ?_)
      · have h := h.1 hc
        exact k_X4_common_61 E hK27 hH (lv_sub hl [0, 1, 2, 3, 4] rfl) h
      · have h := h.2 hc
        refine lv_iload hx hb dX4_common_56 (lv_at hl 4 rfl) ?_
        refine lv_goto (tgt := 62) hx hb dX4_common_58 (by decide) ?_
        exact k_X4_common_62 E hK27 hH (lv_sub hl [0, 1, 2, 4] rfl) h
theorem k_X4_common_27 {post : Int32 → MS → Prop} (E : Cx p s m args meth c cX4_common 5 RX4 (some .int) D (tyW cI cS cO))  (n : Nat) : ∀ {C : MS} {x1 : Int32} {x2 : Int32} {x3 : Int32} {x4 : Int32} {H : Heap} {locs : List Loc} {ls : Array Slot} (hH : HX D (wM cI cS a C) A s.heap H locs) (hl : lv_has ls 5 [(0, .ref (a 0)), (1, .int x1), (2, .int x2), (3, .int x3), (4, .int x4)]) (h : w_X4_common_27 post n C x1 x2 x3 x4), W p l e (rmA 1 0 0) s m args below meth c H locs 0 0 (MQ below ((QI D (wM cI cS a) post) A) args s 0 0 A) (F0 m 27 ls []) := by
  induction n with
  | zero => intros; contradiction
  | succ n ih => intro C x1 x2 x3 x4 H locs ls hH hl h; exact k_X4_common_27b E  (fun C x1 x2 x3 x4 H locs ls hH hl h => ih hH hl h) hH hl h
set_option maxHeartbeats 4000000 in
set_option maxRecDepth 100000 in
theorem k_X4_common_16 {post : Int32 → MS → Prop} (E : Cx p s m args meth c cX4_common 5 RX4 (some .int) D (tyW cI cS cO))  {C : MS}  {H : Heap} {locs : List Loc} {ls : Array Slot} (hH : HX D (wM cI cS a C) A s.heap H locs) (hl : lv_has ls 5 [(0, .ref (a 0))]) (h : w_X4_common_16 post C ) : W p l e (rmA 1 0 0) s m args below meth c H locs 0 0 (MQ below ((QI D (wM cI cS a) post) A) args s 0 0 A) (F0 m 16 ls []) := by
  have hx := E.1
  have hb := E.2.1
  unfold w_X4_common_16 at h
  refine lv_aload_n hx hb dX4_common_16 rfl (lv_at hl 0 rfl) ?_
  refine lv_iconst (v := (-1 : Int32)) hx hb dX4_common_17 (by decide) ?_
  refine x_ci (x_runV (As := [.int (-1 : Int32)]) (rest := []) E (c_X4_answer h) yk_X4_answer yi_X4_answer km_X4_86 ⟨Nat.le_of_ble_eq_true rfl, Nat.le_of_ble_eq_true rfl⟩ ⟨Nat.le_of_ble_eq_true rfl, Nat.le_of_ble_eq_true rfl⟩ hH (va_recv E.2.2.2.2.2.1 hH.1 (ci := 4) (q0 := 0) rfl wM_g0) hl.1 rfl rfl (lv_room (Nat.le_of_ble_eq_true rfl)) dX4_common_18) hH (fun r7 C6 H locs h hH => ?_)
  exact x_iret E hH h dX4_common_21
set_option maxHeartbeats 4000000 in
set_option maxRecDepth 100000 in
theorem c_X4_common {l : Launch} {D : va_G} {cI cS cO : ClassId} {a : Nat → Nat} {C : MS} {x1 : Int32} {x2 : Int32} {post : Int32 → MS → Prop} (h : w_X4_common post C x1 x2) : MetX l D (tyW cI cS cO) yX4_common cX4_common 5 (some .int) 1 0 0 [.ref (a 0), .int x1, .int x2] (wM cI cS a C) (QI D (wM cI cS a) post) := by
  refine x_ent (by decide) (Nat.le_of_ble_eq_true rfl) ?_
  intro p e s m below meth c ls E _ hH hl
  have hx := E.1
  have hb := E.2.1
  generalize va_A (wM cI cS a C) s.heap.size = A at hH ⊢
  have hl : lv_has ls 5 [(0, .ref (a 0)), (1, .int x1), (2, .int x2)] := hl
  unfold w_X4_common at h
  refine lv_aload_n hx hb dX4_common_0 rfl (lv_at hl 0 rfl) ?_
  refine lv_iload_n hx hb dX4_common_1 rfl (lv_at hl 1 rfl) ?_
  refine x_ci (x_runV (As := [.int x1]) (rest := []) E (c_X4_isVersion h) yk_X4_isVersion yi_X4_isVersion km_X4_109 ⟨Nat.le_of_ble_eq_true rfl, Nat.le_of_ble_eq_true rfl⟩ ⟨Nat.le_of_ble_eq_true rfl, Nat.le_of_ble_eq_true rfl⟩ hH (va_recv E.2.2.2.2.2.1 hH.1 (ci := 4) (q0 := 0) rfl wM_g0) hl.1 rfl rfl (lv_room (Nat.le_of_ble_eq_true rfl)) dX4_common_2) hH (fun r2 C1 H locs h hH => ?_)
  refine lv_if_eq (tgt := 16) hx hb dX4_common_5 (by decide) (fun hc => ?_) (fun hc => ?_)
  · have h := h.1 hc
    exact k_X4_common_16 E  hH (lv_sub hl [0] rfl) h
  · have h := h.2 hc
    refine lv_aload_n hx hb dX4_common_8 rfl (lv_at hl 0 rfl) ?_
    refine lv_iload_n hx hb dX4_common_9 rfl (lv_at hl 2 rfl) ?_
    refine x_ci (x_runV (As := [.int x2]) (rest := []) E (c_X4_isVersion h) yk_X4_isVersion yi_X4_isVersion km_X4_109 ⟨Nat.le_of_ble_eq_true rfl, Nat.le_of_ble_eq_true rfl⟩ ⟨Nat.le_of_ble_eq_true rfl, Nat.le_of_ble_eq_true rfl⟩ hH (va_recv E.2.2.2.2.2.1 hH.1 (ci := 4) (q0 := 0) rfl wM_g0) hl.1 rfl rfl (lv_room (Nat.le_of_ble_eq_true rfl)) dX4_common_10) hH (fun r4 C3 H locs h hH => ?_)
    refine lv_if_ne (tgt := 22) hx hb dX4_common_13 (by decide) (fun hc => ?_) (fun hc => ?_)
    · have h := h.1 hc
      refine lv_iconst (v := (0 : Int32)) hx hb dX4_common_22 (by decide) ?_
      refine lv_istore_n (lv' := [(3, .int (0 : Int32)), (0, .ref (a 0)), (1, .int x1), (2, .int x2)]) hx hb dX4_common_23 rfl hl (by decide) rfl (fun ls hl => ?_)
      refine lv_iconst (v := (0 : Int32)) hx hb dX4_common_24 (by decide) ?_
      refine lv_istore (lv' := [(4, .int (0 : Int32)), (3, .int (0 : Int32)), (0, .ref (a 0)), (1, .int x1), (2, .int x2)]) hx hb dX4_common_25 hl (by decide) rfl (fun ls hl => ?_)
      obtain ⟨n, h⟩ := h
      exact k_X4_common_27 E  n hH (lv_sub hl [2, 3, 4, 1, 0] rfl) h
    · have h := h.2 hc
      exact k_X4_common_16 E  hH (lv_sub hl [0] rfl) h
set_option maxHeartbeats 4000000 in
set_option maxRecDepth 100000 in
theorem c_X4_versions {l : Launch} {D : va_G} {cI cS cO : ClassId} {a : Nat → Nat} {C : MS} {x1 : Int32} {post : Int32 → MS → Prop} (h : w_X4_versions post C x1) : MetX l D (tyW cI cS cO) yX4_versions cX4_versions 2 (some .int) 0 0 0 [.ref (a 0), .int x1] (wM cI cS a C) (QI D (wM cI cS a) post) := by
  refine x_ent (by decide) (Nat.le_of_ble_eq_true rfl) ?_
  intro p e s m below meth c ls E _ hH hl
  have hx := E.1
  have hb := E.2.1
  generalize va_A (wM cI cS a C) s.heap.size = A at hH ⊢
  have hl : lv_has ls 2 [(0, .ref (a 0)), (1, .int x1)] := hl
  unfold w_X4_versions at h
  refine lv_iload_n hx hb dX4_versions_0 rfl (lv_at hl 1 rfl) ?_
  refine lv_if_eq (tgt := 11) hx hb dX4_versions_1 (by decide) (fun hc => ?_) (fun hc => ?_)
  · have h := h.1 hc
    refine lv_aload_n hx hb dX4_versions_11 rfl (lv_at hl 0 rfl) ?_
    refine x_get (ci := 4) (CN := RX4) (T := TX4) (N := 20) E in_X4 hH 0 wM_g0 rfl 0 (by decide) kf_X4_7 rfl dX4_versions_12 ?_
    exact x_iret E hH h dX4_versions_15
  · have h := h.2 hc
    refine lv_aload_n hx hb dX4_versions_4 rfl (lv_at hl 0 rfl) ?_
    refine x_get (ci := 4) (CN := RX4) (T := TX4) (N := 20) E in_X4 hH 0 wM_g0 rfl 7 (by decide) kf_X4_89 rfl dX4_versions_5 ?_
    refine lv_goto (tgt := 15) hx hb dX4_versions_8 (by decide) ?_
    exact x_iret E hH h dX4_versions_15
set_option maxHeartbeats 4000000 in
set_option maxRecDepth 100000 in
theorem k_X4_store_10b {post : Int32 → MS → Prop} (E : Cx p s m args meth c cX4_store 8 RX4 (some .int) D (tyW cI cS cO))  {K10 : MS → Int32 → Int32 → Int32 → Int32 → Int32 → Prop} (hK10 : ∀ (C : MS) (x1 : Int32) (x2 : Int32) (x3 : Int32) (x4 : Int32) (x5 : Int32) (H : Heap) (locs : List Loc) (ls : Array Slot), HX D (wM cI cS a C) A s.heap H locs → lv_has ls 8 [(0, .ref (a 0)), (1, .int x1), (2, .int x2), (3, .int x3), (4, .int x4), (5, .int x5)] → K10 C x1 x2 x3 x4 x5 → W p l e (rmA 1 0 0) s m args below meth c H locs 0 0 (MQ below ((QI D (wM cI cS a) post) A) args s 0 0 A) (F0 m 10 ls [])) {C : MS} {x1 : Int32} {x2 : Int32} {x3 : Int32} {x4 : Int32} {x5 : Int32} {H : Heap} {locs : List Loc} {ls : Array Slot} (hH : HX D (wM cI cS a C) A s.heap H locs) (hl : lv_has ls 8 [(0, .ref (a 0)), (1, .int x1), (2, .int x2), (3, .int x3), (4, .int x4), (5, .int x5)]) (h : w_X4_store_10b post K10 C x1 x2 x3 x4 x5) : W p l e (rmA 1 0 0) s m args below meth c H locs 0 0 (MQ below ((QI D (wM cI cS a) post) A) args s 0 0 A) (F0 m 10 ls []) := by
  have hx := E.1
  have hb := E.2.1
  unfold w_X4_store_10b at h
  refine lv_iload hx hb dX4_store_10 (lv_at hl 5 rfl) ?_
  refine lv_iload hx hb dX4_store_12 (lv_at hl 4 rfl) ?_
  refine lv_icmp_ge (tgt := 71) hx hb dX4_store_14 (by decide) (fun hc => ?_) (fun hc => ?_)
  · have h := h.1 hc
    refine lv_aload_n hx hb dX4_store_71 rfl (lv_at hl 0 rfl) ?_
    refine x_get (ci := 4) (CN := RX4) (T := TX4) (N := 20) E in_X4 hH 0 wM_g0 rfl 10 (by decide) kf_X4_37 rfl dX4_store_72 ?_
    refine lv_iload_n hx hb dX4_store_75 rfl (lv_at hl 2 rfl) ?_
    refine lv_iload hx hb dX4_store_76 (lv_at hl 4 rfl) ?_
    obtain ⟨hi4, h⟩ := h
    refine x_iast E hH 8 0 wM_g10 rfl hi4 wM_s10 dX4_store_78 (fun H locs hH => ?_)
    refine lv_aload_n hx hb dX4_store_79 rfl (lv_at hl 0 rfl) ?_
    refine x_get (ci := 4) (CN := RX4) (T := TX4) (N := 20) E in_X4 hH 0 wM_g0 rfl 8 (by decide) kf_X4_31 rfl dX4_store_80 ?_
    refine lv_iload_n hx hb dX4_store_83 rfl (lv_at hl 2 rfl) ?_
    refine lv_iload_n hx hb dX4_store_84 rfl (lv_at hl 3 rfl) ?_
    refine x_iast E hH 6 0 wM_g8 rfl hi4 wM_s8 dX4_store_85 (fun H locs hH => ?_)
    refine lv_iload hx hb dX4_store_86 (lv_at hl 4 rfl) ?_
    exact x_iret E hH h dX4_store_88
  · have h := h.2 hc
    refine lv_aload_n hx hb dX4_store_17 rfl (lv_at hl 0 rfl) ?_
    refine lv_iload_n hx hb dX4_store_18 rfl (lv_at hl 1 rfl) ?_
    refine lv_iload hx hb dX4_store_19 (lv_at hl 5 rfl) ?_
    refine x_ci (x_runV (As := [.int x1, .int x5]) (rest := []) E (c_X4_valueAt h) yk_X4_valueAt yi_X4_valueAt km_X4_103 ⟨Nat.le_of_ble_eq_true rfl, Nat.le_of_ble_eq_true rfl⟩ ⟨Nat.le_of_ble_eq_true rfl, Nat.le_of_ble_eq_true rfl⟩ hH (va_recv E.2.2.2.2.2.1 hH.1 (ci := 4) (q0 := 0) rfl wM_g0) hl.1 rfl rfl (lv_room (Nat.le_of_ble_eq_true rfl)) dX4_store_21) hH (fun r6 C5 H locs h hH => ?_)
    refine lv_istore (lv' := [(6, .int r6), (0, .ref (a 0)), (1, .int x1), (2, .int x2), (3, .int x3), (4, .int x4), (5, .int x5)]) hx hb dX4_store_24 hl (by decide) rfl (fun ls hl => ?_)
    refine lv_aload_n hx hb dX4_store_26 rfl (lv_at hl 1 rfl) ?_
    refine lv_iload_n hx hb dX4_store_27 rfl (lv_at hl 2 rfl) ?_
    refine lv_iload hx hb dX4_store_28 (lv_at hl 6 rfl) ?_
    refine x_ci (x_runV (As := [.int x1, .int x5]) (rest := []) E (c_X4_weightAt h) yk_X4_weightAt yi_X4_weightAt km_X4_106 ⟨Nat.le_of_ble_eq_true rfl, Nat.le_of_ble_eq_true rfl⟩ ⟨Nat.le_of_ble_eq_true rfl, Nat.le_of_ble_eq_true rfl⟩ hH (va_recv E.2.2.2.2.2.1 hH.1 (ci := 4) (q0 := 0) rfl wM_g0) hl.1 rfl rfl (lv_room (Nat.le_of_ble_eq_true rfl)) dX4_store_30) hH (fun r8 C7 H locs h hH => ?_)
    refine lv_istore (lv' := [(7, .int r8), (6, .int r6), (0, .ref (a 0)), (1, .int x1), (2, .int x2), (3, .int x3), (4, .int x4), (5, .int x5)]) hx hb dX4_store_33 hl (by decide) rfl (fun ls hl => ?_)
    refine lv_aload_n hx hb dX4_store_35 rfl (lv_at hl 2 rfl) ?_
    refine x_get (ci := 4) (CN := RX4) (T := TX4) (N := 20) E in_X4 hH 0 wM_g0 rfl 11 (by decide) kf_X4_40 rfl dX4_store_36 ?_
    refine lv_sipush (v := (400 : Int32)) hx hb dX4_store_39 (by decide) ?_
    refine lv_iload_n hx hb dX4_store_42 rfl (lv_at hl 4 rfl) ?_
    refine lv_imul hx hb dX4_store_43 ?_
    refine lv_iload hx hb dX4_store_44 (lv_at hl 7 rfl) ?_
    refine lv_iadd hx hb dX4_store_46 ?_
    refine lv_iload hx hb dX4_store_47 (lv_at hl 1 rfl) ?_
    obtain ⟨hi9, h⟩ := h
    refine x_iast E hH 9 0 wM_g11 rfl hi9 wM_s11 dX4_store_49 (fun H locs hH => ?_)
    refine lv_aload_n hx hb dX4_store_50 rfl (lv_at hl 2 rfl) ?_
    refine x_get (ci := 4) (CN := RX4) (T := TX4) (N := 20) E in_X4 hH 0 wM_g0 rfl 12 (by decide) kf_X4_43 rfl dX4_store_51 ?_
    refine lv_sipush (v := (400 : Int32)) hx hb dX4_store_54 (by decide) ?_
    refine lv_iload_n hx hb dX4_store_57 rfl (lv_at hl 4 rfl) ?_
    refine lv_imul hx hb dX4_store_58 ?_
    refine lv_iload hx hb dX4_store_59 (lv_at hl 7 rfl) ?_
    refine lv_iadd hx hb dX4_store_61 ?_
    refine lv_iload hx hb dX4_store_62 (lv_at hl 0 rfl) ?_
    refine x_iast E hH 10 0 wM_g12 rfl hi9 wM_s12 dX4_store_64 (fun H locs hH => ?_)
    refine lv_iinc (v := (x5 + 1)) (lv' := [(5, .int (x5 + 1)), (7, .int r8), (6, .int r6), (0, .ref (a 0)), (1, .int x1), (2, .int x2), (3, .int x3), (4, .int x4)]) hx hb dX4_store_65 hl (k := 7) rfl rfl (by decide) rfl (fun ls hl => ?_)
    refine lv_goto (tgt := 10) hx hb dX4_store_68 (by decide) ?_
    exact hK10 _ _ _ _ _ _ _ _ _ hH (lv_sub hl [3, 4, 5, 6, 7, 0] rfl) h
theorem k_X4_store_10 {post : Int32 → MS → Prop} (E : Cx p s m args meth c cX4_store 8 RX4 (some .int) D (tyW cI cS cO))  (n : Nat) : ∀ {C : MS} {x1 : Int32} {x2 : Int32} {x3 : Int32} {x4 : Int32} {x5 : Int32} {H : Heap} {locs : List Loc} {ls : Array Slot} (hH : HX D (wM cI cS a C) A s.heap H locs) (hl : lv_has ls 8 [(0, .ref (a 0)), (1, .int x1), (2, .int x2), (3, .int x3), (4, .int x4), (5, .int x5)]) (h : w_X4_store_10 post n C x1 x2 x3 x4 x5), W p l e (rmA 1 0 0) s m args below meth c H locs 0 0 (MQ below ((QI D (wM cI cS a) post) A) args s 0 0 A) (F0 m 10 ls []) := by
  induction n with
  | zero => intros; contradiction
  | succ n ih => intro C x1 x2 x3 x4 x5 H locs ls hH hl h; exact k_X4_store_10b E  (fun C x1 x2 x3 x4 x5 H locs ls hH hl h => ih hH hl h) hH hl h
set_option maxHeartbeats 4000000 in
set_option maxRecDepth 100000 in
theorem c_X4_store {l : Launch} {D : va_G} {cI cS cO : ClassId} {a : Nat → Nat} {C : MS} {x1 : Int32} {x2 : Int32} {x3 : Int32} {post : Int32 → MS → Prop} (h : w_X4_store post C x1 x2 x3) : MetX l D (tyW cI cS cO) yX4_store cX4_store 8 (some .int) 1 0 0 [.ref (a 0), .int x1, .int x2, .int x3] (wM cI cS a C) (QI D (wM cI cS a) post) := by
  refine x_ent (by decide) (Nat.le_of_ble_eq_true rfl) ?_
  intro p e s m below meth c ls E _ hH hl
  have hx := E.1
  have hb := E.2.1
  generalize va_A (wM cI cS a C) s.heap.size = A at hH ⊢
  have hl : lv_has ls 8 [(0, .ref (a 0)), (1, .int x1), (2, .int x2), (3, .int x3)] := hl
  unfold w_X4_store at h
  refine lv_aload_n hx hb dX4_store_0 rfl (lv_at hl 0 rfl) ?_
  refine lv_iload_n hx hb dX4_store_1 rfl (lv_at hl 1 rfl) ?_
  refine x_ci (x_runV (As := [.int x1]) (rest := []) E (c_X4_size h) yk_X4_size yi_X4_size km_X4_68 ⟨Nat.le_of_ble_eq_true rfl, Nat.le_of_ble_eq_true rfl⟩ ⟨Nat.le_of_ble_eq_true rfl, Nat.le_of_ble_eq_true rfl⟩ hH (va_recv E.2.2.2.2.2.1 hH.1 (ci := 4) (q0 := 0) rfl wM_g0) hl.1 rfl rfl (lv_room (Nat.le_of_ble_eq_true rfl)) dX4_store_2) hH (fun r2 C1 H locs h hH => ?_)
  refine lv_istore (lv' := [(4, .int r2), (0, .ref (a 0)), (1, .int x1), (2, .int x2), (3, .int x3)]) hx hb dX4_store_5 hl (by decide) rfl (fun ls hl => ?_)
  refine lv_iconst (v := (0 : Int32)) hx hb dX4_store_7 (by decide) ?_
  refine lv_istore (lv' := [(5, .int (0 : Int32)), (4, .int r2), (0, .ref (a 0)), (1, .int x1), (2, .int x2), (3, .int x3)]) hx hb dX4_store_8 hl (by decide) rfl (fun ls hl => ?_)
  obtain ⟨n, h⟩ := h
  exact k_X4_store_10 E  n hH (lv_sub hl [2, 3, 4, 5, 1, 0] rfl) h
set_option maxHeartbeats 4000000 in
set_option maxRecDepth 100000 in
theorem k_X4_seal_96 {post : Int32 → MS → Prop} (E : Cx p s m args meth c cX4_seal 7 RX4 (some .int) D (tyW cI cS cO))  {C : MS} {s0 : Int32} {s1 : Int32} {s2 : Int32} {H : Heap} {locs : List Loc} {ls : Array Slot} (hH : HX D (wM cI cS a C) A s.heap H locs) (hl : lv_has ls 7 []) (h : w_X4_seal_96 post C s0 s1 s2) : W p l e (rmA 2 0 0) s m args below meth c H locs 0 0 (MQ below ((QI D (wM cI cS a) post) A) args s 0 0 A) (F0 m 96 ls [.int s0, .int s1, .int s2, .ref (a 0)]) := by
  have hx := E.1
  have hb := E.2.1
  unfold w_X4_seal_96 at h
  refine x_ci (x_runV (As := [.int s2, .int s1, .int s0]) (rest := []) E (c_X4_store h) yk_X4_store yi_X4_store km_X4_116 ⟨Nat.le_of_ble_eq_true rfl, Nat.le_of_ble_eq_true rfl⟩ ⟨Nat.le_of_ble_eq_true rfl, Nat.le_of_ble_eq_true rfl⟩ hH (va_recv E.2.2.2.2.2.1 hH.1 (ci := 4) (q0 := 0) rfl wM_g0) hl.1 rfl rfl (lv_room (Nat.le_of_ble_eq_true rfl)) dX4_seal_96) hH (fun r15 C14 H locs h hH => ?_)
  exact x_iret E hH h dX4_seal_99
set_option maxHeartbeats 4000000 in
set_option maxRecDepth 100000 in
theorem k_X4_seal_73 {post : Int32 → MS → Prop} (E : Cx p s m args meth c cX4_seal 7 RX4 (some .int) D (tyW cI cS cO))  {C : MS} {x1 : Int32} {x2 : Int32} {x3 : Int32} {x5 : Int32} {H : Heap} {locs : List Loc} {ls : Array Slot} (hH : HX D (wM cI cS a C) A s.heap H locs) (hl : lv_has ls 7 [(0, .ref (a 0)), (1, .int x1), (2, .int x2), (3, .int x3), (5, .int x5)]) (h : w_X4_seal_73 post C x1 x2 x3 x5) : W p l e (rmA 2 0 0) s m args below meth c H locs 0 0 (MQ below ((QI D (wM cI cS a) post) A) args s 0 0 A) (F0 m 73 ls []) := by
  have hx := E.1
  have hb := E.2.1
  unfold w_X4_seal_73 at h
  refine lv_iload hx hb dX4_seal_73 (lv_at hl 4 rfl) ?_
  refine lv_if_ne (tgt := 84) hx hb dX4_seal_75 (by decide) (fun hc => ?_) (fun hc => ?_)
  · have h := h.1 hc
    refine lv_aload_n hx hb dX4_seal_84 rfl (lv_at hl 0 rfl) ?_
    refine lv_iload_n hx hb dX4_seal_85 rfl (lv_at hl 1 rfl) ?_
    refine lv_iload_n hx hb dX4_seal_86 rfl (lv_at hl 2 rfl) ?_
    refine lv_iload_n hx hb dX4_seal_87 rfl (lv_at hl 3 rfl) ?_
    refine lv_if_eq (tgt := 95) hx hb dX4_seal_88 (by decide) (fun hc => ?_) (fun hc => ?_)
    · have h := h.1 hc
      refine lv_iconst (v := (2 : Int32)) hx hb dX4_seal_95 (by decide) ?_
      exact k_X4_seal_96 E  hH (lv_sub hl [] rfl) h
    · have h := h.2 hc
      refine lv_iconst (v := (3 : Int32)) hx hb dX4_seal_91 (by decide) ?_
      refine lv_goto (tgt := 96) hx hb dX4_seal_92 (by decide) ?_
      exact k_X4_seal_96 E  hH (lv_sub hl [] rfl) h
  · have h := h.2 hc
    refine lv_aload_n hx hb dX4_seal_78 rfl (lv_at hl 0 rfl) ?_
    refine lv_iconst (v := (-1 : Int32)) hx hb dX4_seal_79 (by decide) ?_
    refine x_ci (x_runV (As := [.int (-1 : Int32)]) (rest := []) E (c_X4_answer h) yk_X4_answer yi_X4_answer km_X4_86 ⟨Nat.le_of_ble_eq_true rfl, Nat.le_of_ble_eq_true rfl⟩ ⟨Nat.le_of_ble_eq_true rfl, Nat.le_of_ble_eq_true rfl⟩ hH (va_recv E.2.2.2.2.2.1 hH.1 (ci := 4) (q0 := 0) rfl wM_g0) hl.1 rfl rfl (lv_room (Nat.le_of_ble_eq_true rfl)) dX4_seal_80) hH (fun r13 C12 H locs h hH => ?_)
    exact x_iret E hH h dX4_seal_83
set_option maxHeartbeats 4000000 in
set_option maxRecDepth 100000 in
theorem k_X4_seal_65 {post : Int32 → MS → Prop} (E : Cx p s m args meth c cX4_seal 7 RX4 (some .int) D (tyW cI cS cO)) {K28 : MS → Int32 → Int32 → Int32 → Int32 → Int32 → Prop} (hK28 : ∀ (C : MS) (x1 : Int32) (x2 : Int32) (x3 : Int32) (x5 : Int32) (x6 : Int32) (H : Heap) (locs : List Loc) (ls : Array Slot), HX D (wM cI cS a C) A s.heap H locs → lv_has ls 7 [(0, .ref (a 0)), (1, .int x1), (2, .int x2), (3, .int x3), (5, .int x5), (6, .int x6)] → K28 C x1 x2 x3 x5 x6 → W p l e (rmA 2 0 0) s m args below meth c H locs 0 0 (MQ below ((QI D (wM cI cS a) post) A) args s 0 0 A) (F0 m 28 ls [])) {C : MS} {x1 : Int32} {x2 : Int32} {x3 : Int32} {x6 : Int32} {s0 : Int32} {H : Heap} {locs : List Loc} {ls : Array Slot} (hH : HX D (wM cI cS a C) A s.heap H locs) (hl : lv_has ls 7 [(0, .ref (a 0)), (1, .int x1), (2, .int x2), (3, .int x3), (6, .int x6)]) (h : w_X4_seal_65 post K28 C x1 x2 x3 x6 s0) : W p l e (rmA 2 0 0) s m args below meth c H locs 0 0 (MQ below ((QI D (wM cI cS a) post) A) args s 0 0 A) (F0 m 65 ls [.int s0]) := by
  have hx := E.1
  have hb := E.2.1
  unfold w_X4_seal_65 at h
  refine lv_istore (lv' := [(5, .int s0), (0, .ref (a 0)), (1, .int x1), (2, .int x2), (3, .int x3), (6, .int x6)]) hx hb dX4_seal_65 hl (by decide) rfl (fun ls hl => ?_)
  refine lv_iinc (v := (x6 + 1)) (lv' := [(6, .int (x6 + 1)), (5, .int s0), (0, .ref (a 0)), (1, .int x1), (2, .int x2), (3, .int x3)]) hx hb dX4_seal_67 hl (k := 5) rfl rfl (by decide) rfl (fun ls hl => ?_)
  refine lv_goto (tgt := 28) hx hb dX4_seal_70 (by decide) ?_
  exact hK28 _ _ _ _ _ _ _ _ _ hH (lv_sub hl [2, 3, 4, 5, 1, 0] rfl) h
set_option maxHeartbeats 4000000 in
set_option maxRecDepth 100000 in
theorem k_X4_seal_64 {post : Int32 → MS → Prop} (E : Cx p s m args meth c cX4_seal 7 RX4 (some .int) D (tyW cI cS cO)) {K28 : MS → Int32 → Int32 → Int32 → Int32 → Int32 → Prop} (hK28 : ∀ (C : MS) (x1 : Int32) (x2 : Int32) (x3 : Int32) (x5 : Int32) (x6 : Int32) (H : Heap) (locs : List Loc) (ls : Array Slot), HX D (wM cI cS a C) A s.heap H locs → lv_has ls 7 [(0, .ref (a 0)), (1, .int x1), (2, .int x2), (3, .int x3), (5, .int x5), (6, .int x6)] → K28 C x1 x2 x3 x5 x6 → W p l e (rmA 2 0 0) s m args below meth c H locs 0 0 (MQ below ((QI D (wM cI cS a) post) A) args s 0 0 A) (F0 m 28 ls [])) {C : MS} {x1 : Int32} {x2 : Int32} {x3 : Int32} {x6 : Int32} {H : Heap} {locs : List Loc} {ls : Array Slot} (hH : HX D (wM cI cS a C) A s.heap H locs) (hl : lv_has ls 7 [(0, .ref (a 0)), (1, .int x1), (2, .int x2), (3, .int x3), (6, .int x6)]) (h : w_X4_seal_64 post K28 C x1 x2 x3 x6) : W p l e (rmA 2 0 0) s m args below meth c H locs 0 0 (MQ below ((QI D (wM cI cS a) post) A) args s 0 0 A) (F0 m 64 ls []) := by
  have hx := E.1
  have hb := E.2.1
  unfold w_X4_seal_64 at h
  refine lv_iconst (v := (0 : Int32)) hx hb dX4_seal_64 (by decide) ?_
  exact k_X4_seal_65 E hK28 hH (lv_sub hl [0, 1, 2, 3, 4] rfl) h
set_option maxHeartbeats 4000000 in
set_option maxRecDepth 100000 in
theorem k_X4_seal_28b {post : Int32 → MS → Prop} (E : Cx p s m args meth c cX4_seal 7 RX4 (some .int) D (tyW cI cS cO))  {K28 : MS → Int32 → Int32 → Int32 → Int32 → Int32 → Prop} (hK28 : ∀ (C : MS) (x1 : Int32) (x2 : Int32) (x3 : Int32) (x5 : Int32) (x6 : Int32) (H : Heap) (locs : List Loc) (ls : Array Slot), HX D (wM cI cS a C) A s.heap H locs → lv_has ls 7 [(0, .ref (a 0)), (1, .int x1), (2, .int x2), (3, .int x3), (5, .int x5), (6, .int x6)] → K28 C x1 x2 x3 x5 x6 → W p l e (rmA 2 0 0) s m args below meth c H locs 0 0 (MQ below ((QI D (wM cI cS a) post) A) args s 0 0 A) (F0 m 28 ls [])) {C : MS} {x1 : Int32} {x2 : Int32} {x3 : Int32} {x5 : Int32} {x6 : Int32} {H : Heap} {locs : List Loc} {ls : Array Slot} (hH : HX D (wM cI cS a C) A s.heap H locs) (hl : lv_has ls 7 [(0, .ref (a 0)), (1, .int x1), (2, .int x2), (3, .int x3), (5, .int x5), (6, .int x6)]) (h : w_X4_seal_28b post K28 C x1 x2 x3 x5 x6) : W p l e (rmA 2 0 0) s m args below meth c H locs 0 0 (MQ below ((QI D (wM cI cS a) post) A) args s 0 0 A) (F0 m 28 ls []) := by
  have hx := E.1
  have hb := E.2.1
  unfold w_X4_seal_28b at h
  refine lv_iload hx hb dX4_seal_28 (lv_at hl 5 rfl) ?_
  refine lv_aload_n hx hb dX4_seal_30 rfl (lv_at hl 0 rfl) ?_
  refine lv_iload_n hx hb dX4_seal_31 rfl (lv_at hl 1 rfl) ?_
  refine x_ci (x_runV (As := [.int x1]) (rest := [.int x6]) E (c_X4_size h) yk_X4_size yi_X4_size km_X4_68 ⟨Nat.le_of_ble_eq_true rfl, Nat.le_of_ble_eq_true rfl⟩ ⟨Nat.le_of_ble_eq_true rfl, Nat.le_of_ble_eq_true rfl⟩ hH (va_recv E.2.2.2.2.2.1 hH.1 (ci := 4) (q0 := 0) rfl wM_g0) hl.1 rfl rfl (lv_room (Nat.le_of_ble_eq_true rfl)) dX4_seal_32) hH (fun r9 C8 H locs h hH => ?_)
  refine lv_icmp_ge (tgt := 73) hx hb dX4_seal_35 (by decide) (fun hc => ?_) (fun hc => ?_)
  · have h := h.1 hc
    exact k_X4_seal_73 E  hH (lv_sub hl [0, 1, 2, 3, 4] rfl) h
  · have h := h.2 hc
    refine lv_iload_n hx hb dX4_seal_38 rfl (lv_at hl 3 rfl) ?_
    refine lv_if_eq (tgt := 73) hx hb dX4_seal_39 (by decide) (fun hc => ?_) (fun hc => ?_)
    · have h := h.1 hc
      exact k_X4_seal_73 E  hH (lv_sub hl [0, 1, 2, 3, 4] rfl) h
    · have h := h.2 hc
      refine lv_iload hx hb dX4_seal_42 (lv_at hl 4 rfl) ?_
      refine lv_if_eq (tgt := 64) hx hb dX4_seal_44 (by decide) (fun hc => ?_) (fun hc => ?_)
      · have h := h.1 hc
        exact k_X4_seal_64 E hK28 hH (lv_sub hl [0, 1, 2, 3, 5] rfl) h
      · have h := h.2 hc
        refine lv_aload_n hx hb dX4_seal_47 rfl (lv_at hl 0 rfl) ?_
        refine lv_iload_n hx hb dX4_seal_48 rfl (lv_at hl 1 rfl) ?_
        refine lv_iload hx hb dX4_seal_49 (lv_at hl 5 rfl) ?_
        refine x_ci (x_runV (As := [.int x1, .int x6]) (rest := []) E (c_X4_valueAt h) yk_X4_valueAt yi_X4_valueAt km_X4_103 ⟨Nat.le_of_ble_eq_true rfl, Nat.le_of_ble_eq_true rfl⟩ ⟨Nat.le_of_ble_eq_true rfl, Nat.le_of_ble_eq_true rfl⟩ hH (va_recv E.2.2.2.2.2.1 hH.1 (ci := 4) (q0 := 0) rfl wM_g0) hl.1 rfl rfl (lv_room (Nat.le_of_ble_eq_true rfl)) dX4_seal_51) hH (fun r11 C10 H locs h hH => ?_)
        refine lv_sipush (v := (256 : Int32)) hx hb dX4_seal_54 (by decide) ?_
        refine lv_icmp_ge (tgt := 64) hx hb dX4_seal_57 (by decide) (fun hc => ?_) (fun hc => ?_)
        · have h := h.1 hc
          exact k_X4_seal_64 E hK28 hH (lv_sub hl [0, 1, 2, 3, 5] rfl) h
        · have h := h.2 hc
          refine lv_iconst (v := (1 : Int32)) hx hb dX4_seal_60 (by decide) ?_
          refine lv_goto (tgt := 65) hx hb dX4_seal_61 (by decide) ?_
          exact k_X4_seal_65 E hK28 hH (lv_sub hl [0, 1, 2, 3, 5] rfl) h
theorem k_X4_seal_28 {post : Int32 → MS → Prop} (E : Cx p s m args meth c cX4_seal 7 RX4 (some .int) D (tyW cI cS cO))  (n : Nat) : ∀ {C : MS} {x1 : Int32} {x2 : Int32} {x3 : Int32} {x5 : Int32} {x6 : Int32} {H : Heap} {locs : List Loc} {ls : Array Slot} (hH : HX D (wM cI cS a C) A s.heap H locs) (hl : lv_has ls 7 [(0, .ref (a 0)), (1, .int x1), (2, .int x2), (3, .int x3), (5, .int x5), (6, .int x6)]) (h : w_X4_seal_28 post n C x1 x2 x3 x5 x6), W p l e (rmA 2 0 0) s m args below meth c H locs 0 0 (MQ below ((QI D (wM cI cS a) post) A) args s 0 0 A) (F0 m 28 ls []) := by
  induction n with
  | zero => intros; contradiction
  | succ n ih => intro C x1 x2 x3 x5 x6 H locs ls hH hl h; exact k_X4_seal_28b E  (fun C x1 x2 x3 x5 x6 H locs ls hH hl h => ih hH hl h) hH hl h
set_option maxHeartbeats 4000000 in
set_option maxRecDepth 100000 in
theorem c_X4_seal {l : Launch} {D : va_G} {cI cS cO : ClassId} {a : Nat → Nat} {C : MS} {x1 : Int32} {x2 : Int32} {x3 : Int32} {post : Int32 → MS → Prop} (h : w_X4_seal post C x1 x2 x3) : MetX l D (tyW cI cS cO) yX4_seal cX4_seal 7 (some .int) 2 0 0 [.ref (a 0), .int x1, .int x2, .int x3] (wM cI cS a C) (QI D (wM cI cS a) post) := by
  refine x_ent (by decide) (Nat.le_of_ble_eq_true rfl) ?_
  intro p e s m below meth c ls E _ hH hl
  have hx := E.1
  have hb := E.2.1
  generalize va_A (wM cI cS a C) s.heap.size = A at hH ⊢
  have hl : lv_has ls 7 [(0, .ref (a 0)), (1, .int x1), (2, .int x2), (3, .int x3)] := hl
  unfold w_X4_seal at h
  refine lv_aload_n hx hb dX4_seal_0 rfl (lv_at hl 0 rfl) ?_
  refine lv_iload_n hx hb dX4_seal_1 rfl (lv_at hl 1 rfl) ?_
  refine x_ci (x_runV (As := [.int x1]) (rest := []) E (c_X4_look h) yk_X4_look yi_X4_look km_X4_72 ⟨Nat.le_of_ble_eq_true rfl, Nat.le_of_ble_eq_true rfl⟩ ⟨Nat.le_of_ble_eq_true rfl, Nat.le_of_ble_eq_true rfl⟩ hH (va_recv E.2.2.2.2.2.1 hH.1 (ci := 4) (q0 := 0) rfl wM_g0) hl.1 rfl rfl (lv_room (Nat.le_of_ble_eq_true rfl)) dX4_seal_2) hH (fun r2 C1 H locs h hH => ?_)
  refine lv_istore (lv' := [(4, .int r2), (0, .ref (a 0)), (1, .int x1), (2, .int x2), (3, .int x3)]) hx hb dX4_seal_5 hl (by decide) rfl (fun ls hl => ?_)
  refine lv_iload hx hb dX4_seal_7 (lv_at hl 0 rfl) ?_
  refine lv_if_ge (tgt := 19) hx hb dX4_seal_9 (by decide) (fun hc => ?_) (fun hc => ?_)
  · have h := h.1 hc
    refine lv_iload_n hx hb dX4_seal_19 rfl (lv_at hl 3 rfl) ?_
    refine x_ci (x_runS (As := [.int x2]) (rest := []) E (c_X4_isPlace h) yk_X4_isPlace yi_X4_isPlace km_X4_64 ⟨Nat.le_of_ble_eq_true rfl, Nat.le_of_ble_eq_true rfl⟩ ⟨Nat.le_of_ble_eq_true rfl, Nat.le_of_ble_eq_true rfl⟩ hH  hl.1 rfl rfl (lv_room (Nat.le_of_ble_eq_true rfl)) dX4_seal_20) hH (fun r4 C3 H locs h hH => ?_)
    refine lv_istore (lv' := [(5, .int r4), (4, .int r2), (0, .ref (a 0)), (1, .int x1), (2, .int x2), (3, .int x3)]) hx hb dX4_seal_23 hl (by decide) rfl (fun ls hl => ?_)
    refine lv_iconst (v := (0 : Int32)) hx hb dX4_seal_25 (by decide) ?_
    refine lv_istore (lv' := [(6, .int (0 : Int32)), (5, .int r4), (4, .int r2), (0, .ref (a 0)), (1, .int x1), (2, .int x2), (3, .int x3)]) hx hb dX4_seal_26 hl (by decide) rfl (fun ls hl => ?_)
    obtain ⟨n, h⟩ := h
    exact k_X4_seal_28 E  n hH (lv_sub hl [3, 4, 5, 6, 1, 0] rfl) h
  · have h := h.2 hc
    refine lv_aload_n hx hb dX4_seal_12 rfl (lv_at hl 1 rfl) ?_
    refine lv_iload hx hb dX4_seal_13 (lv_at hl 0 rfl) ?_
    refine x_ci (x_runV (As := [.int r2]) (rest := []) E (c_X4_answer h) yk_X4_answer yi_X4_answer km_X4_86 ⟨Nat.le_of_ble_eq_true rfl, Nat.le_of_ble_eq_true rfl⟩ ⟨Nat.le_of_ble_eq_true rfl, Nat.le_of_ble_eq_true rfl⟩ hH (va_recv E.2.2.2.2.2.1 hH.1 (ci := 4) (q0 := 0) rfl wM_g0) hl.1 rfl rfl (lv_room (Nat.le_of_ble_eq_true rfl)) dX4_seal_15) hH (fun r7 C6 H locs h hH => ?_)
    exact x_iret E hH h dX4_seal_18
end WALKS_M1
