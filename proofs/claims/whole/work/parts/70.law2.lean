section LAWC
variable {p : Program} {l : Launch} {e : Env} {s : State} {m : MethodId} {b : Nat} {below : List Frame} {meth : Method} {c : Code} {D : va_G} {cI cS cO : ClassId} {a am ad : Nat → Nat} {A : Nat → Prop} {rt : Option FieldType} {Q : State → Prop} {C : CS} {M : MS} {S : Sh} {H : Heap} {locs : List Loc} {ls : Array Slot} {cells slots L j : Nat} {xs : Nat → Int32}
set_option maxHeartbeats 4000000 in
set_option maxRecDepth 100000 in
theorem lw_c20 (E : Cx p s m #[Value.ref b] meth c cL_law 4 RL rt D (tyW cI cS cO)) (X : LX s A b L xs) (hj : ∀ t : Nat, t < 6 → vp_in (nI (6 * j) + nI t) L) (hcs : cells + 3 ≤ 600000 ∧ slots + 809 ≤ 7302250) (hC : RelC C S) (hM : RelM M S) (hH : HX D (wC cI cO a ad C ++ wM cI cS am M) A s.heap H locs) (hl : lv_has ls 4 [(0, .ref b), (1, .ref (a 0)), (2, .ref (am 0)), (3, .int (nI (6 * j)))]) (K : LKo p l e s m b below meth c D cI cS cO a am A Q ls cells slots) : W p l e room_1 s m #[Value.ref b] below meth c H locs cells slots Q (F0 m 1041 ls []) := by
  have hx := E.1
  have hb := E.2.1
  obtain ⟨hX, hbl, hbA⟩ := X
  refine lv_aload_n hx hb dL_law_1041 rfl (lv_at hl 1 rfl) ?_
  refine lv_aload_n hx hb dL_law_1042 rfl (lv_at hl 0 rfl) ?_
  refine lv_iload_n hx hb dL_law_1043 rfl (lv_at hl 3 rfl) ?_
  refine lv_iconst (v := (1 : Int32)) hx hb dL_law_1044 (by decide) ?_
  refine lv_iadd hx hb dL_law_1045 ?_
  refine va_sld hx hb hX hbl hbA hH.2.2.1 (hj 1 (by decide)) dL_law_1046 ?_
  refine lv_aload_n hx hb dL_law_1047 rfl (lv_at hl 0 rfl) ?_
  refine lv_iload_n hx hb dL_law_1048 rfl (lv_at hl 3 rfl) ?_
  refine lv_iconst (v := (2 : Int32)) hx hb dL_law_1049 (by decide) ?_
  refine lv_iadd hx hb dL_law_1050 ?_
  refine va_sld hx hb hX hbl hbA hH.2.2.1 (hj 2 (by decide)) dL_law_1051 ?_
  refine lv_aload_n hx hb dL_law_1052 rfl (lv_at hl 0 rfl) ?_
  refine lv_iload_n hx hb dL_law_1053 rfl (lv_at hl 3 rfl) ?_
  refine lv_iconst (v := (3 : Int32)) hx hb dL_law_1054 (by decide) ?_
  refine lv_iadd hx hb dL_law_1055 ?_
  refine va_sld hx hb hX hbl hbA hH.2.2.1 (hj 3 (by decide)) dL_law_1056 ?_
  refine lv_aload_n hx hb dL_law_1057 rfl (lv_at hl 0 rfl) ?_
  refine lv_iload_n hx hb dL_law_1058 rfl (lv_at hl 3 rfl) ?_
  refine lv_iconst (v := (4 : Int32)) hx hb dL_law_1059 (by decide) ?_
  refine lv_iadd hx hb dL_law_1060 ?_
  refine va_sld hx hb hX hbl hbA hH.2.2.1 (hj 4 (by decide)) dL_law_1061 ?_
  refine x_fi (x_runV (As := [.int (xs (Int32.toNatClampNeg (nI (6 * j) + (1 : Int32)))), .int (xs (Int32.toNatClampNeg (nI (6 * j) + (2 : Int32)))), .int (xs (Int32.toNatClampNeg (nI (6 * j) + (3 : Int32)))), .int (xs (Int32.toNatClampNeg (nI (6 * j) + (4 : Int32))))]) (rest := []) E (c_X3_prior (post := fun r u => r = (sp_prior S (xs (Int32.toNatClampNeg (nI (6 * j) + (1 : Int32)))) (xs (Int32.toNatClampNeg (nI (6 * j) + (2 : Int32)))) (xs (Int32.toNatClampNeg (nI (6 * j) + (3 : Int32)))) (xs (Int32.toNatClampNeg (nI (6 * j) + (4 : Int32))))).1 ∧ RelC u (sp_prior S (xs (Int32.toNatClampNeg (nI (6 * j) + (1 : Int32)))) (xs (Int32.toNatClampNeg (nI (6 * j) + (2 : Int32)))) (xs (Int32.toNatClampNeg (nI (6 * j) + (3 : Int32)))) (xs (Int32.toNatClampNeg (nI (6 * j) + (4 : Int32))))).2) (pc_prior hC (fun _ h9 => ⟨rfl, h9⟩))) yk_X3_prior yi_X3_prior km_L_101 ⟨Nat.le_of_ble_eq_true rfl, Nat.le_of_ble_eq_true rfl⟩ ⟨by show _ ≤ 600000; omega, by show _ ≤ 7302250; omega⟩ (x_part hH) (va_recv E.2.2.2.2.2.1 (x_part hH).1 (ci := 3) (q0 := 0) rfl wC_g0) hl.1 rfl rfl (lv_room (Nat.le_of_ble_eq_true rfl)) dL_law_1062) hH (fun r u H locs h9 hH => ?_)
  obtain ⟨er, hC1⟩ := h9
  subst er
  have hH := x_swap hH
  refine lv_aload_n hx hb dL_law_1065 rfl (lv_at hl 2 rfl) ?_
  refine lv_aload_n hx hb dL_law_1066 rfl (lv_at hl 0 rfl) ?_
  refine lv_iload_n hx hb dL_law_1067 rfl (lv_at hl 3 rfl) ?_
  refine lv_iconst (v := (1 : Int32)) hx hb dL_law_1068 (by decide) ?_
  refine lv_iadd hx hb dL_law_1069 ?_
  refine va_sld hx hb hX hbl hbA hH.2.2.1 (hj 1 (by decide)) dL_law_1070 ?_
  refine lv_aload_n hx hb dL_law_1071 rfl (lv_at hl 0 rfl) ?_
  refine lv_iload_n hx hb dL_law_1072 rfl (lv_at hl 3 rfl) ?_
  refine lv_iconst (v := (2 : Int32)) hx hb dL_law_1073 (by decide) ?_
  refine lv_iadd hx hb dL_law_1074 ?_
  refine va_sld hx hb hX hbl hbA hH.2.2.1 (hj 2 (by decide)) dL_law_1075 ?_
  refine lv_aload_n hx hb dL_law_1076 rfl (lv_at hl 0 rfl) ?_
  refine lv_iload_n hx hb dL_law_1077 rfl (lv_at hl 3 rfl) ?_
  refine lv_iconst (v := (3 : Int32)) hx hb dL_law_1078 (by decide) ?_
  refine lv_iadd hx hb dL_law_1079 ?_
  refine va_sld hx hb hX hbl hbA hH.2.2.1 (hj 3 (by decide)) dL_law_1080 ?_
  refine lv_aload_n hx hb dL_law_1081 rfl (lv_at hl 0 rfl) ?_
  refine lv_iload_n hx hb dL_law_1082 rfl (lv_at hl 3 rfl) ?_
  refine lv_iconst (v := (4 : Int32)) hx hb dL_law_1083 (by decide) ?_
  refine lv_iadd hx hb dL_law_1084 ?_
  refine va_sld hx hb hX hbl hbA hH.2.2.1 (hj 4 (by decide)) dL_law_1085 ?_
  refine x_fi (x_runV (As := [.int (xs (Int32.toNatClampNeg (nI (6 * j) + (1 : Int32)))), .int (xs (Int32.toNatClampNeg (nI (6 * j) + (2 : Int32)))), .int (xs (Int32.toNatClampNeg (nI (6 * j) + (3 : Int32)))), .int (xs (Int32.toNatClampNeg (nI (6 * j) + (4 : Int32))))]) (rest := [.int (sp_prior S (xs (Int32.toNatClampNeg (nI (6 * j) + (1 : Int32)))) (xs (Int32.toNatClampNeg (nI (6 * j) + (2 : Int32)))) (xs (Int32.toNatClampNeg (nI (6 * j) + (3 : Int32)))) (xs (Int32.toNatClampNeg (nI (6 * j) + (4 : Int32))))).1]) E (c_X4_prior (post := fun r u => r = (sp_prior S (xs (Int32.toNatClampNeg (nI (6 * j) + (1 : Int32)))) (xs (Int32.toNatClampNeg (nI (6 * j) + (2 : Int32)))) (xs (Int32.toNatClampNeg (nI (6 * j) + (3 : Int32)))) (xs (Int32.toNatClampNeg (nI (6 * j) + (4 : Int32))))).1 ∧ RelM u (sp_prior S (xs (Int32.toNatClampNeg (nI (6 * j) + (1 : Int32)))) (xs (Int32.toNatClampNeg (nI (6 * j) + (2 : Int32)))) (xs (Int32.toNatClampNeg (nI (6 * j) + (3 : Int32)))) (xs (Int32.toNatClampNeg (nI (6 * j) + (4 : Int32))))).2) (pm_prior hM (fun _ h9 => ⟨rfl, h9⟩))) yk_X4_prior yi_X4_prior km_L_104 ⟨Nat.le_of_ble_eq_true rfl, Nat.le_of_ble_eq_true rfl⟩ ⟨by show _ ≤ 600000; omega, by show _ ≤ 7302250; omega⟩ (x_part hH) (va_recv E.2.2.2.2.2.1 (x_part hH).1 (ci := 4) (q0 := 0) rfl wM_g0) hl.1 rfl rfl (lv_room (Nat.le_of_ble_eq_true rfl)) dL_law_1086) hH (fun r u H locs h9 hH => ?_)
  obtain ⟨er, hM1⟩ := h9
  subst er
  have hH := x_swap hH
  refine lv_icmp_eq (tgt := 1472) hx hb dL_law_1089 (by decide) (fun _ => ?_) (fun h9 => absurd rfl h9)
  refine W.widen (k := cells + 3) (n := slots + 809) (by omega) (by omega) ?_
  exact K _ _ _ _ _ _ hC1 hM1 hH
set_option maxHeartbeats 4000000 in
set_option maxRecDepth 100000 in
theorem lw_c21 (E : Cx p s m #[Value.ref b] meth c cL_law 4 RL rt D (tyW cI cS cO)) (X : LX s A b L xs) (hj : ∀ t : Nat, t < 6 → vp_in (nI (6 * j) + nI t) L) (hcs : cells + 3 ≤ 600000 ∧ slots + 809 ≤ 7302250) (hC : RelC C S) (hM : RelM M S) (hH : HX D (wC cI cO a ad C ++ wM cI cS am M) A s.heap H locs) (hl : lv_has ls 4 [(0, .ref b), (1, .ref (a 0)), (2, .ref (am 0)), (3, .int (nI (6 * j)))]) (K : LKo p l e s m b below meth c D cI cS cO a am A Q ls cells slots) : W p l e room_1 s m #[Value.ref b] below meth c H locs cells slots Q (F0 m 1094 ls []) := by
  have hx := E.1
  have hb := E.2.1
  obtain ⟨hX, hbl, hbA⟩ := X
  refine lv_aload_n hx hb dL_law_1094 rfl (lv_at hl 1 rfl) ?_
  refine lv_aload_n hx hb dL_law_1095 rfl (lv_at hl 0 rfl) ?_
  refine lv_iload_n hx hb dL_law_1096 rfl (lv_at hl 3 rfl) ?_
  refine lv_iconst (v := (1 : Int32)) hx hb dL_law_1097 (by decide) ?_
  refine lv_iadd hx hb dL_law_1098 ?_
  refine va_sld hx hb hX hbl hbA hH.2.2.1 (hj 1 (by decide)) dL_law_1099 ?_
  refine lv_aload_n hx hb dL_law_1100 rfl (lv_at hl 0 rfl) ?_
  refine lv_iload_n hx hb dL_law_1101 rfl (lv_at hl 3 rfl) ?_
  refine lv_iconst (v := (2 : Int32)) hx hb dL_law_1102 (by decide) ?_
  refine lv_iadd hx hb dL_law_1103 ?_
  refine va_sld hx hb hX hbl hbA hH.2.2.1 (hj 2 (by decide)) dL_law_1104 ?_
  refine lv_aload_n hx hb dL_law_1105 rfl (lv_at hl 0 rfl) ?_
  refine lv_iload_n hx hb dL_law_1106 rfl (lv_at hl 3 rfl) ?_
  refine lv_iconst (v := (3 : Int32)) hx hb dL_law_1107 (by decide) ?_
  refine lv_iadd hx hb dL_law_1108 ?_
  refine va_sld hx hb hX hbl hbA hH.2.2.1 (hj 3 (by decide)) dL_law_1109 ?_
  refine x_fi (x_runV (As := [.int (xs (Int32.toNatClampNeg (nI (6 * j) + (1 : Int32)))), .int (xs (Int32.toNatClampNeg (nI (6 * j) + (2 : Int32)))), .int (xs (Int32.toNatClampNeg (nI (6 * j) + (3 : Int32))))]) (rest := []) E (c_X3_median (post := fun r u => r = (sp_median S (xs (Int32.toNatClampNeg (nI (6 * j) + (1 : Int32)))) (xs (Int32.toNatClampNeg (nI (6 * j) + (2 : Int32)))) (xs (Int32.toNatClampNeg (nI (6 * j) + (3 : Int32))))).1 ∧ RelC u (sp_median S (xs (Int32.toNatClampNeg (nI (6 * j) + (1 : Int32)))) (xs (Int32.toNatClampNeg (nI (6 * j) + (2 : Int32)))) (xs (Int32.toNatClampNeg (nI (6 * j) + (3 : Int32))))).2) (pc_median hC (fun _ h9 => ⟨rfl, h9⟩))) yk_X3_median yi_X3_median km_L_105 ⟨Nat.le_of_ble_eq_true rfl, Nat.le_of_ble_eq_true rfl⟩ ⟨by show _ ≤ 600000; omega, by show _ ≤ 7302250; omega⟩ (x_part hH) (va_recv E.2.2.2.2.2.1 (x_part hH).1 (ci := 3) (q0 := 0) rfl wC_g0) hl.1 rfl rfl (lv_room (Nat.le_of_ble_eq_true rfl)) dL_law_1110) hH (fun r u H locs h9 hH => ?_)
  obtain ⟨er, hC1⟩ := h9
  subst er
  have hH := x_swap hH
  refine lv_aload_n hx hb dL_law_1113 rfl (lv_at hl 2 rfl) ?_
  refine lv_aload_n hx hb dL_law_1114 rfl (lv_at hl 0 rfl) ?_
  refine lv_iload_n hx hb dL_law_1115 rfl (lv_at hl 3 rfl) ?_
  refine lv_iconst (v := (1 : Int32)) hx hb dL_law_1116 (by decide) ?_
  refine lv_iadd hx hb dL_law_1117 ?_
  refine va_sld hx hb hX hbl hbA hH.2.2.1 (hj 1 (by decide)) dL_law_1118 ?_
  refine lv_aload_n hx hb dL_law_1119 rfl (lv_at hl 0 rfl) ?_
  refine lv_iload_n hx hb dL_law_1120 rfl (lv_at hl 3 rfl) ?_
  refine lv_iconst (v := (2 : Int32)) hx hb dL_law_1121 (by decide) ?_
  refine lv_iadd hx hb dL_law_1122 ?_
  refine va_sld hx hb hX hbl hbA hH.2.2.1 (hj 2 (by decide)) dL_law_1123 ?_
  refine lv_aload_n hx hb dL_law_1124 rfl (lv_at hl 0 rfl) ?_
  refine lv_iload_n hx hb dL_law_1125 rfl (lv_at hl 3 rfl) ?_
  refine lv_iconst (v := (3 : Int32)) hx hb dL_law_1126 (by decide) ?_
  refine lv_iadd hx hb dL_law_1127 ?_
  refine va_sld hx hb hX hbl hbA hH.2.2.1 (hj 3 (by decide)) dL_law_1128 ?_
  refine x_fi (x_runV (As := [.int (xs (Int32.toNatClampNeg (nI (6 * j) + (1 : Int32)))), .int (xs (Int32.toNatClampNeg (nI (6 * j) + (2 : Int32)))), .int (xs (Int32.toNatClampNeg (nI (6 * j) + (3 : Int32))))]) (rest := [.int (sp_median S (xs (Int32.toNatClampNeg (nI (6 * j) + (1 : Int32)))) (xs (Int32.toNatClampNeg (nI (6 * j) + (2 : Int32)))) (xs (Int32.toNatClampNeg (nI (6 * j) + (3 : Int32))))).1]) E (c_X4_median (post := fun r u => r = (sp_median S (xs (Int32.toNatClampNeg (nI (6 * j) + (1 : Int32)))) (xs (Int32.toNatClampNeg (nI (6 * j) + (2 : Int32)))) (xs (Int32.toNatClampNeg (nI (6 * j) + (3 : Int32))))).1 ∧ RelM u (sp_median S (xs (Int32.toNatClampNeg (nI (6 * j) + (1 : Int32)))) (xs (Int32.toNatClampNeg (nI (6 * j) + (2 : Int32)))) (xs (Int32.toNatClampNeg (nI (6 * j) + (3 : Int32))))).2) (pm_median hM (fun _ h9 => ⟨rfl, h9⟩))) yk_X4_median yi_X4_median km_L_108 ⟨Nat.le_of_ble_eq_true rfl, Nat.le_of_ble_eq_true rfl⟩ ⟨by show _ ≤ 600000; omega, by show _ ≤ 7302250; omega⟩ (x_part hH) (va_recv E.2.2.2.2.2.1 (x_part hH).1 (ci := 4) (q0 := 0) rfl wM_g0) hl.1 rfl rfl (lv_room (Nat.le_of_ble_eq_true rfl)) dL_law_1129) hH (fun r u H locs h9 hH => ?_)
  obtain ⟨er, hM1⟩ := h9
  subst er
  have hH := x_swap hH
  refine lv_icmp_eq (tgt := 1472) hx hb dL_law_1132 (by decide) (fun _ => ?_) (fun h9 => absurd rfl h9)
  refine W.widen (k := cells + 3) (n := slots + 809) (by omega) (by omega) ?_
  exact K _ _ _ _ _ _ hC1 hM1 hH
set_option maxHeartbeats 4000000 in
set_option maxRecDepth 100000 in
theorem lw_c22 (E : Cx p s m #[Value.ref b] meth c cL_law 4 RL rt D (tyW cI cS cO)) (X : LX s A b L xs) (hj : ∀ t : Nat, t < 6 → vp_in (nI (6 * j) + nI t) L) (hcs : cells + 3 ≤ 600000 ∧ slots + 809 ≤ 7302250) (hC : RelC C S) (hM : RelM M S) (hH : HX D (wC cI cO a ad C ++ wM cI cS am M) A s.heap H locs) (hl : lv_has ls 4 [(0, .ref b), (1, .ref (a 0)), (2, .ref (am 0)), (3, .int (nI (6 * j)))]) (K : LKo p l e s m b below meth c D cI cS cO a am A Q ls cells slots) : W p l e room_1 s m #[Value.ref b] below meth c H locs cells slots Q (F0 m 1137 ls []) := by
  have hx := E.1
  have hb := E.2.1
  obtain ⟨hX, hbl, hbA⟩ := X
  refine lv_aload_n hx hb dL_law_1137 rfl (lv_at hl 1 rfl) ?_
  refine lv_aload_n hx hb dL_law_1138 rfl (lv_at hl 0 rfl) ?_
  refine lv_iload_n hx hb dL_law_1139 rfl (lv_at hl 3 rfl) ?_
  refine lv_iconst (v := (1 : Int32)) hx hb dL_law_1140 (by decide) ?_
  refine lv_iadd hx hb dL_law_1141 ?_
  refine va_sld hx hb hX hbl hbA hH.2.2.1 (hj 1 (by decide)) dL_law_1142 ?_
  refine lv_aload_n hx hb dL_law_1143 rfl (lv_at hl 0 rfl) ?_
  refine lv_iload_n hx hb dL_law_1144 rfl (lv_at hl 3 rfl) ?_
  refine lv_iconst (v := (2 : Int32)) hx hb dL_law_1145 (by decide) ?_
  refine lv_iadd hx hb dL_law_1146 ?_
  refine va_sld hx hb hX hbl hbA hH.2.2.1 (hj 2 (by decide)) dL_law_1147 ?_
  refine lv_aload_n hx hb dL_law_1148 rfl (lv_at hl 0 rfl) ?_
  refine lv_iload_n hx hb dL_law_1149 rfl (lv_at hl 3 rfl) ?_
  refine lv_iconst (v := (3 : Int32)) hx hb dL_law_1150 (by decide) ?_
  refine lv_iadd hx hb dL_law_1151 ?_
  refine va_sld hx hb hX hbl hbA hH.2.2.1 (hj 3 (by decide)) dL_law_1152 ?_
  refine x_fi (x_runV (As := [.int (xs (Int32.toNatClampNeg (nI (6 * j) + (1 : Int32)))), .int (xs (Int32.toNatClampNeg (nI (6 * j) + (2 : Int32)))), .int (xs (Int32.toNatClampNeg (nI (6 * j) + (3 : Int32))))]) (rest := []) E (c_X3_half (post := fun r u => r = (sp_half S (xs (Int32.toNatClampNeg (nI (6 * j) + (1 : Int32)))) (xs (Int32.toNatClampNeg (nI (6 * j) + (2 : Int32)))) (xs (Int32.toNatClampNeg (nI (6 * j) + (3 : Int32))))).1 ∧ RelC u (sp_half S (xs (Int32.toNatClampNeg (nI (6 * j) + (1 : Int32)))) (xs (Int32.toNatClampNeg (nI (6 * j) + (2 : Int32)))) (xs (Int32.toNatClampNeg (nI (6 * j) + (3 : Int32))))).2) (pc_half hC (fun _ h9 => ⟨rfl, h9⟩))) yk_X3_half yi_X3_half km_L_109 ⟨Nat.le_of_ble_eq_true rfl, Nat.le_of_ble_eq_true rfl⟩ ⟨by show _ ≤ 600000; omega, by show _ ≤ 7302250; omega⟩ (x_part hH) (va_recv E.2.2.2.2.2.1 (x_part hH).1 (ci := 3) (q0 := 0) rfl wC_g0) hl.1 rfl rfl (lv_room (Nat.le_of_ble_eq_true rfl)) dL_law_1153) hH (fun r u H locs h9 hH => ?_)
  obtain ⟨er, hC1⟩ := h9
  subst er
  have hH := x_swap hH
  refine lv_aload_n hx hb dL_law_1156 rfl (lv_at hl 2 rfl) ?_
  refine lv_aload_n hx hb dL_law_1157 rfl (lv_at hl 0 rfl) ?_
  refine lv_iload_n hx hb dL_law_1158 rfl (lv_at hl 3 rfl) ?_
  refine lv_iconst (v := (1 : Int32)) hx hb dL_law_1159 (by decide) ?_
  refine lv_iadd hx hb dL_law_1160 ?_
  refine va_sld hx hb hX hbl hbA hH.2.2.1 (hj 1 (by decide)) dL_law_1161 ?_
  refine lv_aload_n hx hb dL_law_1162 rfl (lv_at hl 0 rfl) ?_
  refine lv_iload_n hx hb dL_law_1163 rfl (lv_at hl 3 rfl) ?_
  refine lv_iconst (v := (2 : Int32)) hx hb dL_law_1164 (by decide) ?_
  refine lv_iadd hx hb dL_law_1165 ?_
  refine va_sld hx hb hX hbl hbA hH.2.2.1 (hj 2 (by decide)) dL_law_1166 ?_
  refine lv_aload_n hx hb dL_law_1167 rfl (lv_at hl 0 rfl) ?_
  refine lv_iload_n hx hb dL_law_1168 rfl (lv_at hl 3 rfl) ?_
  refine lv_iconst (v := (3 : Int32)) hx hb dL_law_1169 (by decide) ?_
  refine lv_iadd hx hb dL_law_1170 ?_
  refine va_sld hx hb hX hbl hbA hH.2.2.1 (hj 3 (by decide)) dL_law_1171 ?_
  refine x_fi (x_runV (As := [.int (xs (Int32.toNatClampNeg (nI (6 * j) + (1 : Int32)))), .int (xs (Int32.toNatClampNeg (nI (6 * j) + (2 : Int32)))), .int (xs (Int32.toNatClampNeg (nI (6 * j) + (3 : Int32))))]) (rest := [.int (sp_half S (xs (Int32.toNatClampNeg (nI (6 * j) + (1 : Int32)))) (xs (Int32.toNatClampNeg (nI (6 * j) + (2 : Int32)))) (xs (Int32.toNatClampNeg (nI (6 * j) + (3 : Int32))))).1]) E (c_X4_half (post := fun r u => r = (sp_half S (xs (Int32.toNatClampNeg (nI (6 * j) + (1 : Int32)))) (xs (Int32.toNatClampNeg (nI (6 * j) + (2 : Int32)))) (xs (Int32.toNatClampNeg (nI (6 * j) + (3 : Int32))))).1 ∧ RelM u (sp_half S (xs (Int32.toNatClampNeg (nI (6 * j) + (1 : Int32)))) (xs (Int32.toNatClampNeg (nI (6 * j) + (2 : Int32)))) (xs (Int32.toNatClampNeg (nI (6 * j) + (3 : Int32))))).2) (pm_half hM (fun _ h9 => ⟨rfl, h9⟩))) yk_X4_half yi_X4_half km_L_112 ⟨Nat.le_of_ble_eq_true rfl, Nat.le_of_ble_eq_true rfl⟩ ⟨by show _ ≤ 600000; omega, by show _ ≤ 7302250; omega⟩ (x_part hH) (va_recv E.2.2.2.2.2.1 (x_part hH).1 (ci := 4) (q0 := 0) rfl wM_g0) hl.1 rfl rfl (lv_room (Nat.le_of_ble_eq_true rfl)) dL_law_1172) hH (fun r u H locs h9 hH => ?_)
  obtain ⟨er, hM1⟩ := h9
  subst er
  have hH := x_swap hH
  refine lv_icmp_eq (tgt := 1472) hx hb dL_law_1175 (by decide) (fun _ => ?_) (fun h9 => absurd rfl h9)
  refine W.widen (k := cells + 3) (n := slots + 809) (by omega) (by omega) ?_
  exact K _ _ _ _ _ _ hC1 hM1 hH
set_option maxHeartbeats 4000000 in
set_option maxRecDepth 100000 in
theorem lw_c23 (E : Cx p s m #[Value.ref b] meth c cL_law 4 RL rt D (tyW cI cS cO)) (X : LX s A b L xs) (hj : ∀ t : Nat, t < 6 → vp_in (nI (6 * j) + nI t) L) (hcs : cells + 3 ≤ 600000 ∧ slots + 809 ≤ 7302250) (hC : RelC C S) (hM : RelM M S) (hH : HX D (wC cI cO a ad C ++ wM cI cS am M) A s.heap H locs) (hl : lv_has ls 4 [(0, .ref b), (1, .ref (a 0)), (2, .ref (am 0)), (3, .int (nI (6 * j)))]) (K : LKo p l e s m b below meth c D cI cS cO a am A Q ls cells slots) : W p l e room_1 s m #[Value.ref b] below meth c H locs cells slots Q (F0 m 1180 ls []) := by
  have hx := E.1
  have hb := E.2.1
  obtain ⟨hX, hbl, hbA⟩ := X
  refine lv_aload_n hx hb dL_law_1180 rfl (lv_at hl 1 rfl) ?_
  refine lv_aload_n hx hb dL_law_1181 rfl (lv_at hl 0 rfl) ?_
  refine lv_iload_n hx hb dL_law_1182 rfl (lv_at hl 3 rfl) ?_
  refine lv_iconst (v := (1 : Int32)) hx hb dL_law_1183 (by decide) ?_
  refine lv_iadd hx hb dL_law_1184 ?_
  refine va_sld hx hb hX hbl hbA hH.2.2.1 (hj 1 (by decide)) dL_law_1185 ?_
  refine lv_aload_n hx hb dL_law_1186 rfl (lv_at hl 0 rfl) ?_
  refine lv_iload_n hx hb dL_law_1187 rfl (lv_at hl 3 rfl) ?_
  refine lv_iconst (v := (2 : Int32)) hx hb dL_law_1188 (by decide) ?_
  refine lv_iadd hx hb dL_law_1189 ?_
  refine va_sld hx hb hX hbl hbA hH.2.2.1 (hj 2 (by decide)) dL_law_1190 ?_
  refine lv_aload_n hx hb dL_law_1191 rfl (lv_at hl 0 rfl) ?_
  refine lv_iload_n hx hb dL_law_1192 rfl (lv_at hl 3 rfl) ?_
  refine lv_iconst (v := (3 : Int32)) hx hb dL_law_1193 (by decide) ?_
  refine lv_iadd hx hb dL_law_1194 ?_
  refine va_sld hx hb hX hbl hbA hH.2.2.1 (hj 3 (by decide)) dL_law_1195 ?_
  refine lv_aload_n hx hb dL_law_1196 rfl (lv_at hl 0 rfl) ?_
  refine lv_iload_n hx hb dL_law_1197 rfl (lv_at hl 3 rfl) ?_
  refine lv_iconst (v := (4 : Int32)) hx hb dL_law_1198 (by decide) ?_
  refine lv_iadd hx hb dL_law_1199 ?_
  refine va_sld hx hb hX hbl hbA hH.2.2.1 (hj 4 (by decide)) dL_law_1200 ?_
  refine x_fi (x_runV (As := [.int (xs (Int32.toNatClampNeg (nI (6 * j) + (1 : Int32)))), .int (xs (Int32.toNatClampNeg (nI (6 * j) + (2 : Int32)))), .int (xs (Int32.toNatClampNeg (nI (6 * j) + (3 : Int32)))), .int (xs (Int32.toNatClampNeg (nI (6 * j) + (4 : Int32))))]) (rest := []) E (c_X3_often (post := fun r u => r = (sp_often S (xs (Int32.toNatClampNeg (nI (6 * j) + (1 : Int32)))) (xs (Int32.toNatClampNeg (nI (6 * j) + (2 : Int32)))) (xs (Int32.toNatClampNeg (nI (6 * j) + (3 : Int32)))) (xs (Int32.toNatClampNeg (nI (6 * j) + (4 : Int32))))).1 ∧ RelC u (sp_often S (xs (Int32.toNatClampNeg (nI (6 * j) + (1 : Int32)))) (xs (Int32.toNatClampNeg (nI (6 * j) + (2 : Int32)))) (xs (Int32.toNatClampNeg (nI (6 * j) + (3 : Int32)))) (xs (Int32.toNatClampNeg (nI (6 * j) + (4 : Int32))))).2) (pc_often hC (fun _ h9 => ⟨rfl, h9⟩))) yk_X3_often yi_X3_often km_L_113 ⟨Nat.le_of_ble_eq_true rfl, Nat.le_of_ble_eq_true rfl⟩ ⟨by show _ ≤ 600000; omega, by show _ ≤ 7302250; omega⟩ (x_part hH) (va_recv E.2.2.2.2.2.1 (x_part hH).1 (ci := 3) (q0 := 0) rfl wC_g0) hl.1 rfl rfl (lv_room (Nat.le_of_ble_eq_true rfl)) dL_law_1201) hH (fun r u H locs h9 hH => ?_)
  obtain ⟨er, hC1⟩ := h9
  subst er
  have hH := x_swap hH
  refine lv_aload_n hx hb dL_law_1204 rfl (lv_at hl 2 rfl) ?_
  refine lv_aload_n hx hb dL_law_1205 rfl (lv_at hl 0 rfl) ?_
  refine lv_iload_n hx hb dL_law_1206 rfl (lv_at hl 3 rfl) ?_
  refine lv_iconst (v := (1 : Int32)) hx hb dL_law_1207 (by decide) ?_
  refine lv_iadd hx hb dL_law_1208 ?_
  refine va_sld hx hb hX hbl hbA hH.2.2.1 (hj 1 (by decide)) dL_law_1209 ?_
  refine lv_aload_n hx hb dL_law_1210 rfl (lv_at hl 0 rfl) ?_
  refine lv_iload_n hx hb dL_law_1211 rfl (lv_at hl 3 rfl) ?_
  refine lv_iconst (v := (2 : Int32)) hx hb dL_law_1212 (by decide) ?_
  refine lv_iadd hx hb dL_law_1213 ?_
  refine va_sld hx hb hX hbl hbA hH.2.2.1 (hj 2 (by decide)) dL_law_1214 ?_
  refine lv_aload_n hx hb dL_law_1215 rfl (lv_at hl 0 rfl) ?_
  refine lv_iload_n hx hb dL_law_1216 rfl (lv_at hl 3 rfl) ?_
  refine lv_iconst (v := (3 : Int32)) hx hb dL_law_1217 (by decide) ?_
  refine lv_iadd hx hb dL_law_1218 ?_
  refine va_sld hx hb hX hbl hbA hH.2.2.1 (hj 3 (by decide)) dL_law_1219 ?_
  refine lv_aload_n hx hb dL_law_1220 rfl (lv_at hl 0 rfl) ?_
  refine lv_iload_n hx hb dL_law_1221 rfl (lv_at hl 3 rfl) ?_
  refine lv_iconst (v := (4 : Int32)) hx hb dL_law_1222 (by decide) ?_
  refine lv_iadd hx hb dL_law_1223 ?_
  refine va_sld hx hb hX hbl hbA hH.2.2.1 (hj 4 (by decide)) dL_law_1224 ?_
  refine x_fi (x_runV (As := [.int (xs (Int32.toNatClampNeg (nI (6 * j) + (1 : Int32)))), .int (xs (Int32.toNatClampNeg (nI (6 * j) + (2 : Int32)))), .int (xs (Int32.toNatClampNeg (nI (6 * j) + (3 : Int32)))), .int (xs (Int32.toNatClampNeg (nI (6 * j) + (4 : Int32))))]) (rest := [.int (sp_often S (xs (Int32.toNatClampNeg (nI (6 * j) + (1 : Int32)))) (xs (Int32.toNatClampNeg (nI (6 * j) + (2 : Int32)))) (xs (Int32.toNatClampNeg (nI (6 * j) + (3 : Int32)))) (xs (Int32.toNatClampNeg (nI (6 * j) + (4 : Int32))))).1]) E (c_X4_often (post := fun r u => r = (sp_often S (xs (Int32.toNatClampNeg (nI (6 * j) + (1 : Int32)))) (xs (Int32.toNatClampNeg (nI (6 * j) + (2 : Int32)))) (xs (Int32.toNatClampNeg (nI (6 * j) + (3 : Int32)))) (xs (Int32.toNatClampNeg (nI (6 * j) + (4 : Int32))))).1 ∧ RelM u (sp_often S (xs (Int32.toNatClampNeg (nI (6 * j) + (1 : Int32)))) (xs (Int32.toNatClampNeg (nI (6 * j) + (2 : Int32)))) (xs (Int32.toNatClampNeg (nI (6 * j) + (3 : Int32)))) (xs (Int32.toNatClampNeg (nI (6 * j) + (4 : Int32))))).2) (pm_often hM (fun _ h9 => ⟨rfl, h9⟩))) yk_X4_often yi_X4_often km_L_116 ⟨Nat.le_of_ble_eq_true rfl, Nat.le_of_ble_eq_true rfl⟩ ⟨by show _ ≤ 600000; omega, by show _ ≤ 7302250; omega⟩ (x_part hH) (va_recv E.2.2.2.2.2.1 (x_part hH).1 (ci := 4) (q0 := 0) rfl wM_g0) hl.1 rfl rfl (lv_room (Nat.le_of_ble_eq_true rfl)) dL_law_1225) hH (fun r u H locs h9 hH => ?_)
  obtain ⟨er, hM1⟩ := h9
  subst er
  have hH := x_swap hH
  refine lv_icmp_eq (tgt := 1472) hx hb dL_law_1228 (by decide) (fun _ => ?_) (fun h9 => absurd rfl h9)
  refine W.widen (k := cells + 3) (n := slots + 809) (by omega) (by omega) ?_
  exact K _ _ _ _ _ _ hC1 hM1 hH
set_option maxHeartbeats 4000000 in
set_option maxRecDepth 100000 in
theorem lw_c24 (E : Cx p s m #[Value.ref b] meth c cL_law 4 RL rt D (tyW cI cS cO)) (X : LX s A b L xs) (hj : ∀ t : Nat, t < 6 → vp_in (nI (6 * j) + nI t) L) (hcs : cells + 3 ≤ 600000 ∧ slots + 809 ≤ 7302250) (hC : RelC C S) (hM : RelM M S) (hH : HX D (wC cI cO a ad C ++ wM cI cS am M) A s.heap H locs) (hl : lv_has ls 4 [(0, .ref b), (1, .ref (a 0)), (2, .ref (am 0)), (3, .int (nI (6 * j)))]) (K : LKo p l e s m b below meth c D cI cS cO a am A Q ls cells slots) : W p l e room_1 s m #[Value.ref b] below meth c H locs cells slots Q (F0 m 1233 ls []) := by
  have hx := E.1
  have hb := E.2.1
  obtain ⟨hX, hbl, hbA⟩ := X
  refine lv_aload_n hx hb dL_law_1233 rfl (lv_at hl 1 rfl) ?_
  refine lv_aload_n hx hb dL_law_1234 rfl (lv_at hl 0 rfl) ?_
  refine lv_iload_n hx hb dL_law_1235 rfl (lv_at hl 3 rfl) ?_
  refine lv_iconst (v := (1 : Int32)) hx hb dL_law_1236 (by decide) ?_
  refine lv_iadd hx hb dL_law_1237 ?_
  refine va_sld hx hb hX hbl hbA hH.2.2.1 (hj 1 (by decide)) dL_law_1238 ?_
  refine lv_aload_n hx hb dL_law_1239 rfl (lv_at hl 0 rfl) ?_
  refine lv_iload_n hx hb dL_law_1240 rfl (lv_at hl 3 rfl) ?_
  refine lv_iconst (v := (2 : Int32)) hx hb dL_law_1241 (by decide) ?_
  refine lv_iadd hx hb dL_law_1242 ?_
  refine va_sld hx hb hX hbl hbA hH.2.2.1 (hj 2 (by decide)) dL_law_1243 ?_
  refine lv_aload_n hx hb dL_law_1244 rfl (lv_at hl 0 rfl) ?_
  refine lv_iload_n hx hb dL_law_1245 rfl (lv_at hl 3 rfl) ?_
  refine lv_iconst (v := (3 : Int32)) hx hb dL_law_1246 (by decide) ?_
  refine lv_iadd hx hb dL_law_1247 ?_
  refine va_sld hx hb hX hbl hbA hH.2.2.1 (hj 3 (by decide)) dL_law_1248 ?_
  refine x_fi (x_runV (As := [.int (xs (Int32.toNatClampNeg (nI (6 * j) + (1 : Int32)))), .int (xs (Int32.toNatClampNeg (nI (6 * j) + (2 : Int32)))), .int (xs (Int32.toNatClampNeg (nI (6 * j) + (3 : Int32))))]) (rest := []) E (c_X3_distinct (post := fun r u => r = (sp_distinct S (xs (Int32.toNatClampNeg (nI (6 * j) + (1 : Int32)))) (xs (Int32.toNatClampNeg (nI (6 * j) + (2 : Int32)))) (xs (Int32.toNatClampNeg (nI (6 * j) + (3 : Int32))))).1 ∧ RelC u (sp_distinct S (xs (Int32.toNatClampNeg (nI (6 * j) + (1 : Int32)))) (xs (Int32.toNatClampNeg (nI (6 * j) + (2 : Int32)))) (xs (Int32.toNatClampNeg (nI (6 * j) + (3 : Int32))))).2) (pc_distinct hC (fun _ h9 => ⟨rfl, h9⟩))) yk_X3_distinct yi_X3_distinct km_L_117 ⟨Nat.le_of_ble_eq_true rfl, Nat.le_of_ble_eq_true rfl⟩ ⟨by show _ ≤ 600000; omega, by show _ ≤ 7302250; omega⟩ (x_part hH) (va_recv E.2.2.2.2.2.1 (x_part hH).1 (ci := 3) (q0 := 0) rfl wC_g0) hl.1 rfl rfl (lv_room (Nat.le_of_ble_eq_true rfl)) dL_law_1249) hH (fun r u H locs h9 hH => ?_)
  obtain ⟨er, hC1⟩ := h9
  subst er
  have hH := x_swap hH
  refine lv_aload_n hx hb dL_law_1252 rfl (lv_at hl 2 rfl) ?_
  refine lv_aload_n hx hb dL_law_1253 rfl (lv_at hl 0 rfl) ?_
  refine lv_iload_n hx hb dL_law_1254 rfl (lv_at hl 3 rfl) ?_
  refine lv_iconst (v := (1 : Int32)) hx hb dL_law_1255 (by decide) ?_
  refine lv_iadd hx hb dL_law_1256 ?_
  refine va_sld hx hb hX hbl hbA hH.2.2.1 (hj 1 (by decide)) dL_law_1257 ?_
  refine lv_aload_n hx hb dL_law_1258 rfl (lv_at hl 0 rfl) ?_
  refine lv_iload_n hx hb dL_law_1259 rfl (lv_at hl 3 rfl) ?_
  refine lv_iconst (v := (2 : Int32)) hx hb dL_law_1260 (by decide) ?_
  refine lv_iadd hx hb dL_law_1261 ?_
  refine va_sld hx hb hX hbl hbA hH.2.2.1 (hj 2 (by decide)) dL_law_1262 ?_
  refine lv_aload_n hx hb dL_law_1263 rfl (lv_at hl 0 rfl) ?_
  refine lv_iload_n hx hb dL_law_1264 rfl (lv_at hl 3 rfl) ?_
  refine lv_iconst (v := (3 : Int32)) hx hb dL_law_1265 (by decide) ?_
  refine lv_iadd hx hb dL_law_1266 ?_
  refine va_sld hx hb hX hbl hbA hH.2.2.1 (hj 3 (by decide)) dL_law_1267 ?_
  refine x_fi (x_runV (As := [.int (xs (Int32.toNatClampNeg (nI (6 * j) + (1 : Int32)))), .int (xs (Int32.toNatClampNeg (nI (6 * j) + (2 : Int32)))), .int (xs (Int32.toNatClampNeg (nI (6 * j) + (3 : Int32))))]) (rest := [.int (sp_distinct S (xs (Int32.toNatClampNeg (nI (6 * j) + (1 : Int32)))) (xs (Int32.toNatClampNeg (nI (6 * j) + (2 : Int32)))) (xs (Int32.toNatClampNeg (nI (6 * j) + (3 : Int32))))).1]) E (c_X4_distinct (post := fun r u => r = (sp_distinct S (xs (Int32.toNatClampNeg (nI (6 * j) + (1 : Int32)))) (xs (Int32.toNatClampNeg (nI (6 * j) + (2 : Int32)))) (xs (Int32.toNatClampNeg (nI (6 * j) + (3 : Int32))))).1 ∧ RelM u (sp_distinct S (xs (Int32.toNatClampNeg (nI (6 * j) + (1 : Int32)))) (xs (Int32.toNatClampNeg (nI (6 * j) + (2 : Int32)))) (xs (Int32.toNatClampNeg (nI (6 * j) + (3 : Int32))))).2) (pm_distinct hM (fun _ h9 => ⟨rfl, h9⟩))) yk_X4_distinct yi_X4_distinct km_L_120 ⟨Nat.le_of_ble_eq_true rfl, Nat.le_of_ble_eq_true rfl⟩ ⟨by show _ ≤ 600000; omega, by show _ ≤ 7302250; omega⟩ (x_part hH) (va_recv E.2.2.2.2.2.1 (x_part hH).1 (ci := 4) (q0 := 0) rfl wM_g0) hl.1 rfl rfl (lv_room (Nat.le_of_ble_eq_true rfl)) dL_law_1268) hH (fun r u H locs h9 hH => ?_)
  obtain ⟨er, hM1⟩ := h9
  subst er
  have hH := x_swap hH
  refine lv_icmp_eq (tgt := 1472) hx hb dL_law_1271 (by decide) (fun _ => ?_) (fun h9 => absurd rfl h9)
  refine W.widen (k := cells + 3) (n := slots + 809) (by omega) (by omega) ?_
  exact K _ _ _ _ _ _ hC1 hM1 hH
set_option maxHeartbeats 4000000 in
set_option maxRecDepth 100000 in
theorem lw_c25 (E : Cx p s m #[Value.ref b] meth c cL_law 4 RL rt D (tyW cI cS cO)) (X : LX s A b L xs) (hj : ∀ t : Nat, t < 6 → vp_in (nI (6 * j) + nI t) L) (hcs : cells + 3 ≤ 600000 ∧ slots + 809 ≤ 7302250) (hC : RelC C S) (hM : RelM M S) (hH : HX D (wC cI cO a ad C ++ wM cI cS am M) A s.heap H locs) (hl : lv_has ls 4 [(0, .ref b), (1, .ref (a 0)), (2, .ref (am 0)), (3, .int (nI (6 * j)))]) (K : LKo p l e s m b below meth c D cI cS cO a am A Q ls cells slots) : W p l e room_1 s m #[Value.ref b] below meth c H locs cells slots Q (F0 m 1276 ls []) := by
  have hx := E.1
  have hb := E.2.1
  obtain ⟨hX, hbl, hbA⟩ := X
  refine lv_aload_n hx hb dL_law_1276 rfl (lv_at hl 1 rfl) ?_
  refine lv_aload_n hx hb dL_law_1277 rfl (lv_at hl 0 rfl) ?_
  refine lv_iload_n hx hb dL_law_1278 rfl (lv_at hl 3 rfl) ?_
  refine lv_iconst (v := (1 : Int32)) hx hb dL_law_1279 (by decide) ?_
  refine lv_iadd hx hb dL_law_1280 ?_
  refine va_sld hx hb hX hbl hbA hH.2.2.1 (hj 1 (by decide)) dL_law_1281 ?_
  refine lv_aload_n hx hb dL_law_1282 rfl (lv_at hl 0 rfl) ?_
  refine lv_iload_n hx hb dL_law_1283 rfl (lv_at hl 3 rfl) ?_
  refine lv_iconst (v := (2 : Int32)) hx hb dL_law_1284 (by decide) ?_
  refine lv_iadd hx hb dL_law_1285 ?_
  refine va_sld hx hb hX hbl hbA hH.2.2.1 (hj 2 (by decide)) dL_law_1286 ?_
  refine lv_aload_n hx hb dL_law_1287 rfl (lv_at hl 0 rfl) ?_
  refine lv_iload_n hx hb dL_law_1288 rfl (lv_at hl 3 rfl) ?_
  refine lv_iconst (v := (3 : Int32)) hx hb dL_law_1289 (by decide) ?_
  refine lv_iadd hx hb dL_law_1290 ?_
  refine va_sld hx hb hX hbl hbA hH.2.2.1 (hj 3 (by decide)) dL_law_1291 ?_
  refine lv_aload_n hx hb dL_law_1292 rfl (lv_at hl 0 rfl) ?_
  refine lv_iload_n hx hb dL_law_1293 rfl (lv_at hl 3 rfl) ?_
  refine lv_iconst (v := (4 : Int32)) hx hb dL_law_1294 (by decide) ?_
  refine lv_iadd hx hb dL_law_1295 ?_
  refine va_sld hx hb hX hbl hbA hH.2.2.1 (hj 4 (by decide)) dL_law_1296 ?_
  refine x_fl (x_runV (As := [.int (xs (Int32.toNatClampNeg (nI (6 * j) + (1 : Int32)))), .int (xs (Int32.toNatClampNeg (nI (6 * j) + (2 : Int32)))), .int (xs (Int32.toNatClampNeg (nI (6 * j) + (3 : Int32)))), .int (xs (Int32.toNatClampNeg (nI (6 * j) + (4 : Int32))))]) (rest := []) E (c_X3_sum (post := fun r u => r = (sp_sum S (xs (Int32.toNatClampNeg (nI (6 * j) + (1 : Int32)))) (xs (Int32.toNatClampNeg (nI (6 * j) + (2 : Int32)))) (xs (Int32.toNatClampNeg (nI (6 * j) + (3 : Int32)))) (xs (Int32.toNatClampNeg (nI (6 * j) + (4 : Int32))))).1 ∧ RelC u (sp_sum S (xs (Int32.toNatClampNeg (nI (6 * j) + (1 : Int32)))) (xs (Int32.toNatClampNeg (nI (6 * j) + (2 : Int32)))) (xs (Int32.toNatClampNeg (nI (6 * j) + (3 : Int32)))) (xs (Int32.toNatClampNeg (nI (6 * j) + (4 : Int32))))).2) (pc_sum hC (fun _ h9 => ⟨rfl, h9⟩))) yk_X3_sum yi_X3_sum km_L_121 ⟨Nat.le_of_ble_eq_true rfl, Nat.le_of_ble_eq_true rfl⟩ ⟨by show _ ≤ 600000; omega, by show _ ≤ 7302250; omega⟩ (x_part hH) (va_recv E.2.2.2.2.2.1 (x_part hH).1 (ci := 3) (q0 := 0) rfl wC_g0) hl.1 rfl rfl (lv_room (Nat.le_of_ble_eq_true rfl)) dL_law_1297) hH (fun r u H locs h9 hH => ?_)
  obtain ⟨er, hC1⟩ := h9
  subst er
  have hH := x_swap hH
  refine lv_aload_n hx hb dL_law_1300 rfl (lv_at hl 2 rfl) ?_
  refine lv_aload_n hx hb dL_law_1301 rfl (lv_at hl 0 rfl) ?_
  refine lv_iload_n hx hb dL_law_1302 rfl (lv_at hl 3 rfl) ?_
  refine lv_iconst (v := (1 : Int32)) hx hb dL_law_1303 (by decide) ?_
  refine lv_iadd hx hb dL_law_1304 ?_
  refine va_sld hx hb hX hbl hbA hH.2.2.1 (hj 1 (by decide)) dL_law_1305 ?_
  refine lv_aload_n hx hb dL_law_1306 rfl (lv_at hl 0 rfl) ?_
  refine lv_iload_n hx hb dL_law_1307 rfl (lv_at hl 3 rfl) ?_
  refine lv_iconst (v := (2 : Int32)) hx hb dL_law_1308 (by decide) ?_
  refine lv_iadd hx hb dL_law_1309 ?_
  refine va_sld hx hb hX hbl hbA hH.2.2.1 (hj 2 (by decide)) dL_law_1310 ?_
  refine lv_aload_n hx hb dL_law_1311 rfl (lv_at hl 0 rfl) ?_
  refine lv_iload_n hx hb dL_law_1312 rfl (lv_at hl 3 rfl) ?_
  refine lv_iconst (v := (3 : Int32)) hx hb dL_law_1313 (by decide) ?_
  refine lv_iadd hx hb dL_law_1314 ?_
  refine va_sld hx hb hX hbl hbA hH.2.2.1 (hj 3 (by decide)) dL_law_1315 ?_
  refine lv_aload_n hx hb dL_law_1316 rfl (lv_at hl 0 rfl) ?_
  refine lv_iload_n hx hb dL_law_1317 rfl (lv_at hl 3 rfl) ?_
  refine lv_iconst (v := (4 : Int32)) hx hb dL_law_1318 (by decide) ?_
  refine lv_iadd hx hb dL_law_1319 ?_
  refine va_sld hx hb hX hbl hbA hH.2.2.1 (hj 4 (by decide)) dL_law_1320 ?_
  refine x_fl (x_runV (As := [.int (xs (Int32.toNatClampNeg (nI (6 * j) + (1 : Int32)))), .int (xs (Int32.toNatClampNeg (nI (6 * j) + (2 : Int32)))), .int (xs (Int32.toNatClampNeg (nI (6 * j) + (3 : Int32)))), .int (xs (Int32.toNatClampNeg (nI (6 * j) + (4 : Int32))))]) (rest := [.long (sp_sum S (xs (Int32.toNatClampNeg (nI (6 * j) + (1 : Int32)))) (xs (Int32.toNatClampNeg (nI (6 * j) + (2 : Int32)))) (xs (Int32.toNatClampNeg (nI (6 * j) + (3 : Int32)))) (xs (Int32.toNatClampNeg (nI (6 * j) + (4 : Int32))))).1]) E (c_X4_sum (post := fun r u => r = (sp_sum S (xs (Int32.toNatClampNeg (nI (6 * j) + (1 : Int32)))) (xs (Int32.toNatClampNeg (nI (6 * j) + (2 : Int32)))) (xs (Int32.toNatClampNeg (nI (6 * j) + (3 : Int32)))) (xs (Int32.toNatClampNeg (nI (6 * j) + (4 : Int32))))).1 ∧ RelM u (sp_sum S (xs (Int32.toNatClampNeg (nI (6 * j) + (1 : Int32)))) (xs (Int32.toNatClampNeg (nI (6 * j) + (2 : Int32)))) (xs (Int32.toNatClampNeg (nI (6 * j) + (3 : Int32)))) (xs (Int32.toNatClampNeg (nI (6 * j) + (4 : Int32))))).2) (pm_sum hM (fun _ h9 => ⟨rfl, h9⟩))) yk_X4_sum yi_X4_sum km_L_125 ⟨Nat.le_of_ble_eq_true rfl, Nat.le_of_ble_eq_true rfl⟩ ⟨by show _ ≤ 600000; omega, by show _ ≤ 7302250; omega⟩ (x_part hH) (va_recv E.2.2.2.2.2.1 (x_part hH).1 (ci := 4) (q0 := 0) rfl wM_g0) hl.1 rfl rfl (lv_room (Nat.le_of_ble_eq_true rfl)) dL_law_1321) hH (fun r u H locs h9 hH => ?_)
  obtain ⟨er, hM1⟩ := h9
  subst er
  have hH := x_swap hH
  refine W.lcmp hx hb dL_law_1324 ?_
  refine lv_if_eq (tgt := 1472) hx hb dL_law_1325 (by decide) (fun _ => ?_) (fun h9 => absurd ((lg_cmp_eq _ _).mpr rfl) h9)
  refine W.widen (k := cells + 3) (n := slots + 809) (by omega) (by omega) ?_
  exact K _ _ _ _ _ _ hC1 hM1 hH
set_option maxHeartbeats 4000000 in
set_option maxRecDepth 100000 in
theorem lw_c26 (E : Cx p s m #[Value.ref b] meth c cL_law 4 RL rt D (tyW cI cS cO)) (X : LX s A b L xs) (hj : ∀ t : Nat, t < 6 → vp_in (nI (6 * j) + nI t) L) (hcs : cells + 3 ≤ 600000 ∧ slots + 809 ≤ 7302250) (hC : RelC C S) (hM : RelM M S) (hH : HX D (wC cI cO a ad C ++ wM cI cS am M) A s.heap H locs) (hl : lv_has ls 4 [(0, .ref b), (1, .ref (a 0)), (2, .ref (am 0)), (3, .int (nI (6 * j)))]) (K : LKo p l e s m b below meth c D cI cS cO a am A Q ls cells slots) : W p l e room_1 s m #[Value.ref b] below meth c H locs cells slots Q (F0 m 1330 ls []) := by
  have hx := E.1
  have hb := E.2.1
  obtain ⟨hX, hbl, hbA⟩ := X
  refine lv_aload_n hx hb dL_law_1330 rfl (lv_at hl 1 rfl) ?_
  refine lv_aload_n hx hb dL_law_1331 rfl (lv_at hl 0 rfl) ?_
  refine lv_iload_n hx hb dL_law_1332 rfl (lv_at hl 3 rfl) ?_
  refine lv_iconst (v := (1 : Int32)) hx hb dL_law_1333 (by decide) ?_
  refine lv_iadd hx hb dL_law_1334 ?_
  refine va_sld hx hb hX hbl hbA hH.2.2.1 (hj 1 (by decide)) dL_law_1335 ?_
  refine lv_aload_n hx hb dL_law_1336 rfl (lv_at hl 0 rfl) ?_
  refine lv_iload_n hx hb dL_law_1337 rfl (lv_at hl 3 rfl) ?_
  refine lv_iconst (v := (2 : Int32)) hx hb dL_law_1338 (by decide) ?_
  refine lv_iadd hx hb dL_law_1339 ?_
  refine va_sld hx hb hX hbl hbA hH.2.2.1 (hj 2 (by decide)) dL_law_1340 ?_
  refine lv_aload_n hx hb dL_law_1341 rfl (lv_at hl 0 rfl) ?_
  refine lv_iload_n hx hb dL_law_1342 rfl (lv_at hl 3 rfl) ?_
  refine lv_iconst (v := (3 : Int32)) hx hb dL_law_1343 (by decide) ?_
  refine lv_iadd hx hb dL_law_1344 ?_
  refine va_sld hx hb hX hbl hbA hH.2.2.1 (hj 3 (by decide)) dL_law_1345 ?_
  refine lv_aload_n hx hb dL_law_1346 rfl (lv_at hl 0 rfl) ?_
  refine lv_iload_n hx hb dL_law_1347 rfl (lv_at hl 3 rfl) ?_
  refine lv_iconst (v := (4 : Int32)) hx hb dL_law_1348 (by decide) ?_
  refine lv_iadd hx hb dL_law_1349 ?_
  refine va_sld hx hb hX hbl hbA hH.2.2.1 (hj 4 (by decide)) dL_law_1350 ?_
  refine lv_aload_n hx hb dL_law_1351 rfl (lv_at hl 0 rfl) ?_
  refine lv_iload_n hx hb dL_law_1352 rfl (lv_at hl 3 rfl) ?_
  refine lv_iconst (v := (5 : Int32)) hx hb dL_law_1353 (by decide) ?_
  refine lv_iadd hx hb dL_law_1354 ?_
  refine va_sld hx hb hX hbl hbA hH.2.2.1 (hj 5 (by decide)) dL_law_1355 ?_
  refine x_fi (x_runV (As := [.int (xs (Int32.toNatClampNeg (nI (6 * j) + (1 : Int32)))), .int (xs (Int32.toNatClampNeg (nI (6 * j) + (2 : Int32)))), .int (xs (Int32.toNatClampNeg (nI (6 * j) + (3 : Int32)))), .int (xs (Int32.toNatClampNeg (nI (6 * j) + (4 : Int32)))), .int (xs (Int32.toNatClampNeg (nI (6 * j) + (5 : Int32))))]) (rest := []) E (c_X3_differ (post := fun r u => r = (sp_differ S (xs (Int32.toNatClampNeg (nI (6 * j) + (1 : Int32)))) (xs (Int32.toNatClampNeg (nI (6 * j) + (2 : Int32)))) (xs (Int32.toNatClampNeg (nI (6 * j) + (3 : Int32)))) (xs (Int32.toNatClampNeg (nI (6 * j) + (4 : Int32)))) (xs (Int32.toNatClampNeg (nI (6 * j) + (5 : Int32))))).1 ∧ RelC u (sp_differ S (xs (Int32.toNatClampNeg (nI (6 * j) + (1 : Int32)))) (xs (Int32.toNatClampNeg (nI (6 * j) + (2 : Int32)))) (xs (Int32.toNatClampNeg (nI (6 * j) + (3 : Int32)))) (xs (Int32.toNatClampNeg (nI (6 * j) + (4 : Int32)))) (xs (Int32.toNatClampNeg (nI (6 * j) + (5 : Int32))))).2) (pc_differ hC (fun _ h9 => ⟨rfl, h9⟩))) yk_X3_differ yi_X3_differ km_L_126 ⟨Nat.le_of_ble_eq_true rfl, Nat.le_of_ble_eq_true rfl⟩ ⟨by show _ ≤ 600000; omega, by show _ ≤ 7302250; omega⟩ (x_part hH) (va_recv E.2.2.2.2.2.1 (x_part hH).1 (ci := 3) (q0 := 0) rfl wC_g0) hl.1 rfl rfl (lv_room (Nat.le_of_ble_eq_true rfl)) dL_law_1356) hH (fun r u H locs h9 hH => ?_)
  obtain ⟨er, hC1⟩ := h9
  subst er
  have hH := x_swap hH
  refine lv_aload_n hx hb dL_law_1359 rfl (lv_at hl 2 rfl) ?_
  refine lv_aload_n hx hb dL_law_1360 rfl (lv_at hl 0 rfl) ?_
  refine lv_iload_n hx hb dL_law_1361 rfl (lv_at hl 3 rfl) ?_
  refine lv_iconst (v := (1 : Int32)) hx hb dL_law_1362 (by decide) ?_
  refine lv_iadd hx hb dL_law_1363 ?_
  refine va_sld hx hb hX hbl hbA hH.2.2.1 (hj 1 (by decide)) dL_law_1364 ?_
  refine lv_aload_n hx hb dL_law_1365 rfl (lv_at hl 0 rfl) ?_
  refine lv_iload_n hx hb dL_law_1366 rfl (lv_at hl 3 rfl) ?_
  refine lv_iconst (v := (2 : Int32)) hx hb dL_law_1367 (by decide) ?_
  refine lv_iadd hx hb dL_law_1368 ?_
  refine va_sld hx hb hX hbl hbA hH.2.2.1 (hj 2 (by decide)) dL_law_1369 ?_
  refine lv_aload_n hx hb dL_law_1370 rfl (lv_at hl 0 rfl) ?_
  refine lv_iload_n hx hb dL_law_1371 rfl (lv_at hl 3 rfl) ?_
  refine lv_iconst (v := (3 : Int32)) hx hb dL_law_1372 (by decide) ?_
  refine lv_iadd hx hb dL_law_1373 ?_
  refine va_sld hx hb hX hbl hbA hH.2.2.1 (hj 3 (by decide)) dL_law_1374 ?_
  refine lv_aload_n hx hb dL_law_1375 rfl (lv_at hl 0 rfl) ?_
  refine lv_iload_n hx hb dL_law_1376 rfl (lv_at hl 3 rfl) ?_
  refine lv_iconst (v := (4 : Int32)) hx hb dL_law_1377 (by decide) ?_
  refine lv_iadd hx hb dL_law_1378 ?_
  refine va_sld hx hb hX hbl hbA hH.2.2.1 (hj 4 (by decide)) dL_law_1379 ?_
  refine lv_aload_n hx hb dL_law_1380 rfl (lv_at hl 0 rfl) ?_
  refine lv_iload_n hx hb dL_law_1381 rfl (lv_at hl 3 rfl) ?_
  refine lv_iconst (v := (5 : Int32)) hx hb dL_law_1382 (by decide) ?_
  refine lv_iadd hx hb dL_law_1383 ?_
  refine va_sld hx hb hX hbl hbA hH.2.2.1 (hj 5 (by decide)) dL_law_1384 ?_
  refine x_fi (x_runV (As := [.int (xs (Int32.toNatClampNeg (nI (6 * j) + (1 : Int32)))), .int (xs (Int32.toNatClampNeg (nI (6 * j) + (2 : Int32)))), .int (xs (Int32.toNatClampNeg (nI (6 * j) + (3 : Int32)))), .int (xs (Int32.toNatClampNeg (nI (6 * j) + (4 : Int32)))), .int (xs (Int32.toNatClampNeg (nI (6 * j) + (5 : Int32))))]) (rest := [.int (sp_differ S (xs (Int32.toNatClampNeg (nI (6 * j) + (1 : Int32)))) (xs (Int32.toNatClampNeg (nI (6 * j) + (2 : Int32)))) (xs (Int32.toNatClampNeg (nI (6 * j) + (3 : Int32)))) (xs (Int32.toNatClampNeg (nI (6 * j) + (4 : Int32)))) (xs (Int32.toNatClampNeg (nI (6 * j) + (5 : Int32))))).1]) E (c_X4_differ (post := fun r u => r = (sp_differ S (xs (Int32.toNatClampNeg (nI (6 * j) + (1 : Int32)))) (xs (Int32.toNatClampNeg (nI (6 * j) + (2 : Int32)))) (xs (Int32.toNatClampNeg (nI (6 * j) + (3 : Int32)))) (xs (Int32.toNatClampNeg (nI (6 * j) + (4 : Int32)))) (xs (Int32.toNatClampNeg (nI (6 * j) + (5 : Int32))))).1 ∧ RelM u (sp_differ S (xs (Int32.toNatClampNeg (nI (6 * j) + (1 : Int32)))) (xs (Int32.toNatClampNeg (nI (6 * j) + (2 : Int32)))) (xs (Int32.toNatClampNeg (nI (6 * j) + (3 : Int32)))) (xs (Int32.toNatClampNeg (nI (6 * j) + (4 : Int32)))) (xs (Int32.toNatClampNeg (nI (6 * j) + (5 : Int32))))).2) (pm_differ hM (fun _ h9 => ⟨rfl, h9⟩))) yk_X4_differ yi_X4_differ km_L_129 ⟨Nat.le_of_ble_eq_true rfl, Nat.le_of_ble_eq_true rfl⟩ ⟨by show _ ≤ 600000; omega, by show _ ≤ 7302250; omega⟩ (x_part hH) (va_recv E.2.2.2.2.2.1 (x_part hH).1 (ci := 4) (q0 := 0) rfl wM_g0) hl.1 rfl rfl (lv_room (Nat.le_of_ble_eq_true rfl)) dL_law_1385) hH (fun r u H locs h9 hH => ?_)
  obtain ⟨er, hM1⟩ := h9
  subst er
  have hH := x_swap hH
  refine lv_icmp_eq (tgt := 1472) hx hb dL_law_1388 (by decide) (fun _ => ?_) (fun h9 => absurd rfl h9)
  refine W.widen (k := cells + 3) (n := slots + 809) (by omega) (by omega) ?_
  exact K _ _ _ _ _ _ hC1 hM1 hH
set_option maxHeartbeats 4000000 in
set_option maxRecDepth 100000 in
theorem lw_c27 (E : Cx p s m #[Value.ref b] meth c cL_law 4 RL rt D (tyW cI cS cO)) (X : LX s A b L xs) (hj : ∀ t : Nat, t < 6 → vp_in (nI (6 * j) + nI t) L) (hcs : cells + 3 ≤ 600000 ∧ slots + 809 ≤ 7302250) (hC : RelC C S) (hM : RelM M S) (hH : HX D (wC cI cO a ad C ++ wM cI cS am M) A s.heap H locs) (hl : lv_has ls 4 [(0, .ref b), (1, .ref (a 0)), (2, .ref (am 0)), (3, .int (nI (6 * j)))]) (K : LKo p l e s m b below meth c D cI cS cO a am A Q ls cells slots) : W p l e room_1 s m #[Value.ref b] below meth c H locs cells slots Q (F0 m 1393 ls []) := by
  have hx := E.1
  have hb := E.2.1
  obtain ⟨hX, hbl, hbA⟩ := X
  refine lv_aload_n hx hb dL_law_1393 rfl (lv_at hl 1 rfl) ?_
  refine lv_aload_n hx hb dL_law_1394 rfl (lv_at hl 0 rfl) ?_
  refine lv_iload_n hx hb dL_law_1395 rfl (lv_at hl 3 rfl) ?_
  refine lv_iconst (v := (1 : Int32)) hx hb dL_law_1396 (by decide) ?_
  refine lv_iadd hx hb dL_law_1397 ?_
  refine va_sld hx hb hX hbl hbA hH.2.2.1 (hj 1 (by decide)) dL_law_1398 ?_
  refine lv_aload_n hx hb dL_law_1399 rfl (lv_at hl 0 rfl) ?_
  refine lv_iload_n hx hb dL_law_1400 rfl (lv_at hl 3 rfl) ?_
  refine lv_iconst (v := (2 : Int32)) hx hb dL_law_1401 (by decide) ?_
  refine lv_iadd hx hb dL_law_1402 ?_
  refine va_sld hx hb hX hbl hbA hH.2.2.1 (hj 2 (by decide)) dL_law_1403 ?_
  refine x_fi (x_runV (As := [.int (xs (Int32.toNatClampNeg (nI (6 * j) + (1 : Int32)))), .int (xs (Int32.toNatClampNeg (nI (6 * j) + (2 : Int32))))]) (rest := []) E (c_X3_first (post := fun r u => r = (sp_first S (xs (Int32.toNatClampNeg (nI (6 * j) + (1 : Int32)))) (xs (Int32.toNatClampNeg (nI (6 * j) + (2 : Int32))))).1 ∧ RelC u (sp_first S (xs (Int32.toNatClampNeg (nI (6 * j) + (1 : Int32)))) (xs (Int32.toNatClampNeg (nI (6 * j) + (2 : Int32))))).2) (pc_first hC (fun _ h9 => ⟨rfl, h9⟩))) yk_X3_first yi_X3_first km_L_130 ⟨Nat.le_of_ble_eq_true rfl, Nat.le_of_ble_eq_true rfl⟩ ⟨by show _ ≤ 600000; omega, by show _ ≤ 7302250; omega⟩ (x_part hH) (va_recv E.2.2.2.2.2.1 (x_part hH).1 (ci := 3) (q0 := 0) rfl wC_g0) hl.1 rfl rfl (lv_room (Nat.le_of_ble_eq_true rfl)) dL_law_1404) hH (fun r u H locs h9 hH => ?_)
  obtain ⟨er, hC1⟩ := h9
  subst er
  have hH := x_swap hH
  refine lv_aload_n hx hb dL_law_1407 rfl (lv_at hl 2 rfl) ?_
  refine lv_aload_n hx hb dL_law_1408 rfl (lv_at hl 0 rfl) ?_
  refine lv_iload_n hx hb dL_law_1409 rfl (lv_at hl 3 rfl) ?_
  refine lv_iconst (v := (1 : Int32)) hx hb dL_law_1410 (by decide) ?_
  refine lv_iadd hx hb dL_law_1411 ?_
  refine va_sld hx hb hX hbl hbA hH.2.2.1 (hj 1 (by decide)) dL_law_1412 ?_
  refine lv_aload_n hx hb dL_law_1413 rfl (lv_at hl 0 rfl) ?_
  refine lv_iload_n hx hb dL_law_1414 rfl (lv_at hl 3 rfl) ?_
  refine lv_iconst (v := (2 : Int32)) hx hb dL_law_1415 (by decide) ?_
  refine lv_iadd hx hb dL_law_1416 ?_
  refine va_sld hx hb hX hbl hbA hH.2.2.1 (hj 2 (by decide)) dL_law_1417 ?_
  refine x_fi (x_runV (As := [.int (xs (Int32.toNatClampNeg (nI (6 * j) + (1 : Int32)))), .int (xs (Int32.toNatClampNeg (nI (6 * j) + (2 : Int32))))]) (rest := [.int (sp_first S (xs (Int32.toNatClampNeg (nI (6 * j) + (1 : Int32)))) (xs (Int32.toNatClampNeg (nI (6 * j) + (2 : Int32))))).1]) E (c_X4_first (post := fun r u => r = (sp_first S (xs (Int32.toNatClampNeg (nI (6 * j) + (1 : Int32)))) (xs (Int32.toNatClampNeg (nI (6 * j) + (2 : Int32))))).1 ∧ RelM u (sp_first S (xs (Int32.toNatClampNeg (nI (6 * j) + (1 : Int32)))) (xs (Int32.toNatClampNeg (nI (6 * j) + (2 : Int32))))).2) (pm_first hM (fun _ h9 => ⟨rfl, h9⟩))) yk_X4_first yi_X4_first km_L_133 ⟨Nat.le_of_ble_eq_true rfl, Nat.le_of_ble_eq_true rfl⟩ ⟨by show _ ≤ 600000; omega, by show _ ≤ 7302250; omega⟩ (x_part hH) (va_recv E.2.2.2.2.2.1 (x_part hH).1 (ci := 4) (q0 := 0) rfl wM_g0) hl.1 rfl rfl (lv_room (Nat.le_of_ble_eq_true rfl)) dL_law_1418) hH (fun r u H locs h9 hH => ?_)
  obtain ⟨er, hM1⟩ := h9
  subst er
  have hH := x_swap hH
  refine lv_icmp_eq (tgt := 1472) hx hb dL_law_1421 (by decide) (fun _ => ?_) (fun h9 => absurd rfl h9)
  refine W.widen (k := cells + 3) (n := slots + 809) (by omega) (by omega) ?_
  exact K _ _ _ _ _ _ hC1 hM1 hH
set_option maxHeartbeats 4000000 in
set_option maxRecDepth 100000 in
theorem lw_c28 (E : Cx p s m #[Value.ref b] meth c cL_law 4 RL rt D (tyW cI cS cO)) (X : LX s A b L xs) (hj : ∀ t : Nat, t < 6 → vp_in (nI (6 * j) + nI t) L) (hcs : cells + 3 ≤ 600000 ∧ slots + 809 ≤ 7302250) (hC : RelC C S) (hM : RelM M S) (hH : HX D (wC cI cO a ad C ++ wM cI cS am M) A s.heap H locs) (hl : lv_has ls 4 [(0, .ref b), (1, .ref (a 0)), (2, .ref (am 0)), (3, .int (nI (6 * j)))]) (K : LKo p l e s m b below meth c D cI cS cO a am A Q ls cells slots) : W p l e room_1 s m #[Value.ref b] below meth c H locs cells slots Q (F0 m 1426 ls []) := by
  have hx := E.1
  have hb := E.2.1
  obtain ⟨hX, hbl, hbA⟩ := X
  refine lv_aload_n hx hb dL_law_1426 rfl (lv_at hl 1 rfl) ?_
  refine lv_aload_n hx hb dL_law_1427 rfl (lv_at hl 0 rfl) ?_
  refine lv_iload_n hx hb dL_law_1428 rfl (lv_at hl 3 rfl) ?_
  refine lv_iconst (v := (1 : Int32)) hx hb dL_law_1429 (by decide) ?_
  refine lv_iadd hx hb dL_law_1430 ?_
  refine va_sld hx hb hX hbl hbA hH.2.2.1 (hj 1 (by decide)) dL_law_1431 ?_
  refine x_fi (x_runV (As := [.int (xs (Int32.toNatClampNeg (nI (6 * j) + (1 : Int32))))]) (rest := []) E (c_X3_step (post := fun r u => r = (sp_step S (xs (Int32.toNatClampNeg (nI (6 * j) + (1 : Int32))))).1 ∧ RelC u (sp_step S (xs (Int32.toNatClampNeg (nI (6 * j) + (1 : Int32))))).2) (pc_step hC (fun _ h9 => ⟨rfl, h9⟩))) yk_X3_step yi_X3_step km_L_134 ⟨Nat.le_of_ble_eq_true rfl, Nat.le_of_ble_eq_true rfl⟩ ⟨by show _ ≤ 600000; omega, by show _ ≤ 7302250; omega⟩ (x_part hH) (va_recv E.2.2.2.2.2.1 (x_part hH).1 (ci := 3) (q0 := 0) rfl wC_g0) hl.1 rfl rfl (lv_room (Nat.le_of_ble_eq_true rfl)) dL_law_1432) hH (fun r u H locs h9 hH => ?_)
  obtain ⟨er, hC1⟩ := h9
  subst er
  have hH := x_swap hH
  refine lv_aload_n hx hb dL_law_1435 rfl (lv_at hl 2 rfl) ?_
  refine lv_aload_n hx hb dL_law_1436 rfl (lv_at hl 0 rfl) ?_
  refine lv_iload_n hx hb dL_law_1437 rfl (lv_at hl 3 rfl) ?_
  refine lv_iconst (v := (1 : Int32)) hx hb dL_law_1438 (by decide) ?_
  refine lv_iadd hx hb dL_law_1439 ?_
  refine va_sld hx hb hX hbl hbA hH.2.2.1 (hj 1 (by decide)) dL_law_1440 ?_
  refine x_fi (x_runV (As := [.int (xs (Int32.toNatClampNeg (nI (6 * j) + (1 : Int32))))]) (rest := [.int (sp_step S (xs (Int32.toNatClampNeg (nI (6 * j) + (1 : Int32))))).1]) E (c_X4_step (post := fun r u => r = (sp_step S (xs (Int32.toNatClampNeg (nI (6 * j) + (1 : Int32))))).1 ∧ RelM u (sp_step S (xs (Int32.toNatClampNeg (nI (6 * j) + (1 : Int32))))).2) (pm_step hM (fun _ h9 => ⟨rfl, h9⟩))) yk_X4_step yi_X4_step km_L_137 ⟨Nat.le_of_ble_eq_true rfl, Nat.le_of_ble_eq_true rfl⟩ ⟨by show _ ≤ 600000; omega, by show _ ≤ 7302250; omega⟩ (x_part hH) (va_recv E.2.2.2.2.2.1 (x_part hH).1 (ci := 4) (q0 := 0) rfl wM_g0) hl.1 rfl rfl (lv_room (Nat.le_of_ble_eq_true rfl)) dL_law_1441) hH (fun r u H locs h9 hH => ?_)
  obtain ⟨er, hM1⟩ := h9
  subst er
  have hH := x_swap hH
  refine lv_icmp_eq (tgt := 1472) hx hb dL_law_1444 (by decide) (fun _ => ?_) (fun h9 => absurd rfl h9)
  refine W.widen (k := cells + 3) (n := slots + 809) (by omega) (by omega) ?_
  exact K _ _ _ _ _ _ hC1 hM1 hH
set_option maxHeartbeats 4000000 in
set_option maxRecDepth 100000 in
theorem lw_c29 (E : Cx p s m #[Value.ref b] meth c cL_law 4 RL rt D (tyW cI cS cO)) (X : LX s A b L xs) (hj : ∀ t : Nat, t < 6 → vp_in (nI (6 * j) + nI t) L) (hcs : cells + 3 ≤ 600000 ∧ slots + 809 ≤ 7302250) (hC : RelC C S) (hM : RelM M S) (hH : HX D (wC cI cO a ad C ++ wM cI cS am M) A s.heap H locs) (hl : lv_has ls 4 [(0, .ref b), (1, .ref (a 0)), (2, .ref (am 0)), (3, .int (nI (6 * j)))]) (K : LKo p l e s m b below meth c D cI cS cO a am A Q ls cells slots) : W p l e room_1 s m #[Value.ref b] below meth c H locs cells slots Q (F0 m 1449 ls []) := by
  have hx := E.1
  have hb := E.2.1
  obtain ⟨hX, hbl, hbA⟩ := X
  refine lv_aload_n hx hb dL_law_1449 rfl (lv_at hl 1 rfl) ?_
  refine lv_aload_n hx hb dL_law_1450 rfl (lv_at hl 0 rfl) ?_
  refine lv_iload_n hx hb dL_law_1451 rfl (lv_at hl 3 rfl) ?_
  refine lv_iconst (v := (1 : Int32)) hx hb dL_law_1452 (by decide) ?_
  refine lv_iadd hx hb dL_law_1453 ?_
  refine va_sld hx hb hX hbl hbA hH.2.2.1 (hj 1 (by decide)) dL_law_1454 ?_
  refine x_fi (x_runV (As := [.int (xs (Int32.toNatClampNeg (nI (6 * j) + (1 : Int32))))]) (rest := []) E (c_X3_found (post := fun r u => r = (sp_found S (xs (Int32.toNatClampNeg (nI (6 * j) + (1 : Int32))))).1 ∧ RelC u (sp_found S (xs (Int32.toNatClampNeg (nI (6 * j) + (1 : Int32))))).2) (pc_found hC (fun _ h9 => ⟨rfl, h9⟩))) yk_X3_found yi_X3_found km_L_138 ⟨Nat.le_of_ble_eq_true rfl, Nat.le_of_ble_eq_true rfl⟩ ⟨by show _ ≤ 600000; omega, by show _ ≤ 7302250; omega⟩ (x_part hH) (va_recv E.2.2.2.2.2.1 (x_part hH).1 (ci := 3) (q0 := 0) rfl wC_g0) hl.1 rfl rfl (lv_room (Nat.le_of_ble_eq_true rfl)) dL_law_1455) hH (fun r u H locs h9 hH => ?_)
  obtain ⟨er, hC1⟩ := h9
  subst er
  have hH := x_swap hH
  refine lv_aload_n hx hb dL_law_1458 rfl (lv_at hl 2 rfl) ?_
  refine lv_aload_n hx hb dL_law_1459 rfl (lv_at hl 0 rfl) ?_
  refine lv_iload_n hx hb dL_law_1460 rfl (lv_at hl 3 rfl) ?_
  refine lv_iconst (v := (1 : Int32)) hx hb dL_law_1461 (by decide) ?_
  refine lv_iadd hx hb dL_law_1462 ?_
  refine va_sld hx hb hX hbl hbA hH.2.2.1 (hj 1 (by decide)) dL_law_1463 ?_
  refine x_fi (x_runV (As := [.int (xs (Int32.toNatClampNeg (nI (6 * j) + (1 : Int32))))]) (rest := [.int (sp_found S (xs (Int32.toNatClampNeg (nI (6 * j) + (1 : Int32))))).1]) E (c_X4_found (post := fun r u => r = (sp_found S (xs (Int32.toNatClampNeg (nI (6 * j) + (1 : Int32))))).1 ∧ RelM u (sp_found S (xs (Int32.toNatClampNeg (nI (6 * j) + (1 : Int32))))).2) (pm_found hM (fun _ h9 => ⟨rfl, h9⟩))) yk_X4_found yi_X4_found km_L_141 ⟨Nat.le_of_ble_eq_true rfl, Nat.le_of_ble_eq_true rfl⟩ ⟨by show _ ≤ 600000; omega, by show _ ≤ 7302250; omega⟩ (x_part hH) (va_recv E.2.2.2.2.2.1 (x_part hH).1 (ci := 4) (q0 := 0) rfl wM_g0) hl.1 rfl rfl (lv_room (Nat.le_of_ble_eq_true rfl)) dL_law_1464) hH (fun r u H locs h9 hH => ?_)
  obtain ⟨er, hM1⟩ := h9
  subst er
  have hH := x_swap hH
  refine lv_icmp_eq (tgt := 1472) hx hb dL_law_1467 (by decide) (fun _ => ?_) (fun h9 => absurd rfl h9)
  refine W.widen (k := cells + 3) (n := slots + 809) (by omega) (by omega) ?_
  exact K _ _ _ _ _ _ hC1 hM1 hH
end LAWC
