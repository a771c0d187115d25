section LAWC
variable {p : Program} {l : Launch} {e : Env} {s : State} {m : MethodId} {b : Nat} {below : List Frame} {meth : Method} {c : Code} {D : va_G} {cI cS cO : ClassId} {a am ad : Nat → Nat} {A : Nat → Prop} {rt : Option FieldType} {Q : State → Prop} {C : CS} {M : MS} {S : Sh} {H : Heap} {locs : List Loc} {ls : Array Slot} {cells slots L j : Nat} {xs : Nat → Int32}
set_option maxHeartbeats 4000000 in
set_option maxRecDepth 100000 in
theorem lw_c10 (E : Cx p s m #[Value.ref b] meth c cL_law 4 RL rt D (tyW cI cS cO)) (X : LX s A b L xs) (hj : ∀ t : Nat, t < 6 → vp_in (nI (6 * j) + nI t) L) (hcs : cells + 3 ≤ 600000 ∧ slots + 809 ≤ 7302250) (hC : RelC C S) (hM : RelM M S) (hH : HX D (wC cI cO a ad C ++ wM cI cS am M) A s.heap H locs) (hl : lv_has ls 4 [(0, .ref b), (1, .ref (a 0)), (2, .ref (am 0)), (3, .int (nI (6 * j)))]) (K : LKo p l e s m b below meth c D cI cS cO a am A Q ls cells slots) : W p l e room_1 s m #[Value.ref b] below meth c H locs cells slots Q (F0 m 610 ls []) := by
  have hx := E.1
  have hb := E.2.1
  obtain ⟨hX, hbl, hbA⟩ := X
  refine lv_aload_n hx hb dL_law_610 rfl (lv_at hl 1 rfl) ?_
  refine lv_aload_n hx hb dL_law_611 rfl (lv_at hl 0 rfl) ?_
  refine lv_iload_n hx hb dL_law_612 rfl (lv_at hl 3 rfl) ?_
  refine lv_iconst (v := (1 : Int32)) hx hb dL_law_613 (by decide) ?_
  refine lv_iadd hx hb dL_law_614 ?_
  refine va_sld hx hb hX hbl hbA hH.2.2.1 (hj 1 (by decide)) dL_law_615 ?_
  refine x_fi (x_runV (As := [.int (xs (Int32.toNatClampNeg (nI (6 * j) + (1 : Int32))))]) (rest := []) E (c_X3_take (post := fun r u => r = (sp_take S (xs (Int32.toNatClampNeg (nI (6 * j) + (1 : Int32))))).1 ∧ RelC u (sp_take S (xs (Int32.toNatClampNeg (nI (6 * j) + (1 : Int32))))).2) (pc_take hC (fun _ h9 => ⟨rfl, h9⟩))) yk_X3_take yi_X3_take km_L_59 ⟨Nat.le_of_ble_eq_true rfl, Nat.le_of_ble_eq_true rfl⟩ ⟨by show _ ≤ 600000; omega, by show _ ≤ 7302250; omega⟩ (x_part hH) (va_recv E.2.2.2.2.2.1 (x_part hH).1 (ci := 3) (q0 := 0) rfl wC_g0) hl.1 rfl rfl (lv_room (Nat.le_of_ble_eq_true rfl)) dL_law_616) hH (fun r u H locs h9 hH => ?_)
  obtain ⟨er, hC1⟩ := h9
  subst er
  have hH := x_swap hH
  refine lv_aload_n hx hb dL_law_619 rfl (lv_at hl 2 rfl) ?_
  refine lv_aload_n hx hb dL_law_620 rfl (lv_at hl 0 rfl) ?_
  refine lv_iload_n hx hb dL_law_621 rfl (lv_at hl 3 rfl) ?_
  refine lv_iconst (v := (1 : Int32)) hx hb dL_law_622 (by decide) ?_
  refine lv_iadd hx hb dL_law_623 ?_
  refine va_sld hx hb hX hbl hbA hH.2.2.1 (hj 1 (by decide)) dL_law_624 ?_
  refine x_fi (x_runV (As := [.int (xs (Int32.toNatClampNeg (nI (6 * j) + (1 : Int32))))]) (rest := [.int (sp_take S (xs (Int32.toNatClampNeg (nI (6 * j) + (1 : Int32))))).1]) E (c_X4_take (post := fun r u => r = (sp_take S (xs (Int32.toNatClampNeg (nI (6 * j) + (1 : Int32))))).1 ∧ RelM u (sp_take S (xs (Int32.toNatClampNeg (nI (6 * j) + (1 : Int32))))).2) (pm_take hM (fun _ h9 => ⟨rfl, h9⟩))) yk_X4_take yi_X4_take km_L_63 ⟨Nat.le_of_ble_eq_true rfl, Nat.le_of_ble_eq_true rfl⟩ ⟨by show _ ≤ 600000; omega, by show _ ≤ 7302250; omega⟩ (x_part hH) (va_recv E.2.2.2.2.2.1 (x_part hH).1 (ci := 4) (q0 := 0) rfl wM_g0) hl.1 rfl rfl (lv_room (Nat.le_of_ble_eq_true rfl)) dL_law_625) hH (fun r u H locs h9 hH => ?_)
  obtain ⟨er, hM1⟩ := h9
  subst er
  have hH := x_swap hH
  refine lv_icmp_eq (tgt := 1472) hx hb dL_law_628 (by decide) (fun _ => ?_) (fun h9 => absurd rfl h9)
  refine W.widen (k := cells + 3) (n := slots + 809) (by omega) (by omega) ?_
  exact K _ _ _ _ _ _ hC1 hM1 hH
set_option maxHeartbeats 4000000 in
set_option maxRecDepth 100000 in
theorem lw_c11 (E : Cx p s m #[Value.ref b] meth c cL_law 4 RL rt D (tyW cI cS cO)) (X : LX s A b L xs) (hj : ∀ t : Nat, t < 6 → vp_in (nI (6 * j) + nI t) L) (hcs : cells + 3 ≤ 600000 ∧ slots + 809 ≤ 7302250) (hC : RelC C S) (hM : RelM M S) (hH : HX D (wC cI cO a ad C ++ wM cI cS am M) A s.heap H locs) (hl : lv_has ls 4 [(0, .ref b), (1, .ref (a 0)), (2, .ref (am 0)), (3, .int (nI (6 * j)))]) (K : LKo p l e s m b below meth c D cI cS cO a am A Q ls cells slots) : W p l e room_1 s m #[Value.ref b] below meth c H locs cells slots Q (F0 m 633 ls []) := by
  have hx := E.1
  have hb := E.2.1
  obtain ⟨hX, hbl, hbA⟩ := X
  refine lv_aload_n hx hb dL_law_633 rfl (lv_at hl 1 rfl) ?_
  refine lv_aload_n hx hb dL_law_634 rfl (lv_at hl 0 rfl) ?_
  refine lv_iload_n hx hb dL_law_635 rfl (lv_at hl 3 rfl) ?_
  refine lv_iconst (v := (1 : Int32)) hx hb dL_law_636 (by decide) ?_
  refine lv_iadd hx hb dL_law_637 ?_
  refine va_sld hx hb hX hbl hbA hH.2.2.1 (hj 1 (by decide)) dL_law_638 ?_
  refine lv_aload_n hx hb dL_law_639 rfl (lv_at hl 0 rfl) ?_
  refine lv_iload_n hx hb dL_law_640 rfl (lv_at hl 3 rfl) ?_
  refine lv_iconst (v := (2 : Int32)) hx hb dL_law_641 (by decide) ?_
  refine lv_iadd hx hb dL_law_642 ?_
  refine va_sld hx hb hX hbl hbA hH.2.2.1 (hj 2 (by decide)) dL_law_643 ?_
  refine x_fi (x_runV (As := [.int (xs (Int32.toNatClampNeg (nI (6 * j) + (1 : Int32)))), .int (xs (Int32.toNatClampNeg (nI (6 * j) + (2 : Int32))))]) (rest := []) E (c_X3_row (post := fun r u => r = (sp_row S (xs (Int32.toNatClampNeg (nI (6 * j) + (1 : Int32)))) (xs (Int32.toNatClampNeg (nI (6 * j) + (2 : Int32))))).1 ∧ RelC u (sp_row S (xs (Int32.toNatClampNeg (nI (6 * j) + (1 : Int32)))) (xs (Int32.toNatClampNeg (nI (6 * j) + (2 : Int32))))).2) (pc_row hC (fun _ h9 => ⟨rfl, h9⟩))) yk_X3_row yi_X3_row km_L_64 ⟨Nat.le_of_ble_eq_true rfl, Nat.le_of_ble_eq_true rfl⟩ ⟨by show _ ≤ 600000; omega, by show _ ≤ 7302250; omega⟩ (x_part hH) (va_recv E.2.2.2.2.2.1 (x_part hH).1 (ci := 3) (q0 := 0) rfl wC_g0) hl.1 rfl rfl (lv_room (Nat.le_of_ble_eq_true rfl)) dL_law_644) hH (fun r u H locs h9 hH => ?_)
  obtain ⟨er, hC1⟩ := h9
  subst er
  have hH := x_swap hH
  refine lv_aload_n hx hb dL_law_647 rfl (lv_at hl 2 rfl) ?_
  refine lv_aload_n hx hb dL_law_648 rfl (lv_at hl 0 rfl) ?_
  refine lv_iload_n hx hb dL_law_649 rfl (lv_at hl 3 rfl) ?_
  refine lv_iconst (v := (1 : Int32)) hx hb dL_law_650 (by decide) ?_
  refine lv_iadd hx hb dL_law_651 ?_
  refine va_sld hx hb hX hbl hbA hH.2.2.1 (hj 1 (by decide)) dL_law_652 ?_
  refine lv_aload_n hx hb dL_law_653 rfl (lv_at hl 0 rfl) ?_
  refine lv_iload_n hx hb dL_law_654 rfl (lv_at hl 3 rfl) ?_
  refine lv_iconst (v := (2 : Int32)) hx hb dL_law_655 (by decide) ?_
  refine lv_iadd hx hb dL_law_656 ?_
  refine va_sld hx hb hX hbl hbA hH.2.2.1 (hj 2 (by decide)) dL_law_657 ?_
  refine x_fi (x_runV (As := [.int (xs (Int32.toNatClampNeg (nI (6 * j) + (1 : Int32)))), .int (xs (Int32.toNatClampNeg (nI (6 * j) + (2 : Int32))))]) (rest := [.int (sp_row S (xs (Int32.toNatClampNeg (nI (6 * j) + (1 : Int32)))) (xs (Int32.toNatClampNeg (nI (6 * j) + (2 : Int32))))).1]) E (c_X4_row (post := fun r u => r = (sp_row S (xs (Int32.toNatClampNeg (nI (6 * j) + (1 : Int32)))) (xs (Int32.toNatClampNeg (nI (6 * j) + (2 : Int32))))).1 ∧ RelM u (sp_row S (xs (Int32.toNatClampNeg (nI (6 * j) + (1 : Int32)))) (xs (Int32.toNatClampNeg (nI (6 * j) + (2 : Int32))))).2) (pm_row hM (fun _ h9 => ⟨rfl, h9⟩))) yk_X4_row yi_X4_row km_L_67 ⟨Nat.le_of_ble_eq_true rfl, Nat.le_of_ble_eq_true rfl⟩ ⟨by show _ ≤ 600000; omega, by show _ ≤ 7302250; omega⟩ (x_part hH) (va_recv E.2.2.2.2.2.1 (x_part hH).1 (ci := 4) (q0 := 0) rfl wM_g0) hl.1 rfl rfl (lv_room (Nat.le_of_ble_eq_true rfl)) dL_law_658) hH (fun r u H locs h9 hH => ?_)
  obtain ⟨er, hM1⟩ := h9
  subst er
  have hH := x_swap hH
  refine lv_icmp_eq (tgt := 1472) hx hb dL_law_661 (by decide) (fun _ => ?_) (fun h9 => absurd rfl h9)
  refine W.widen (k := cells + 3) (n := slots + 809) (by omega) (by omega) ?_
  exact K _ _ _ _ _ _ hC1 hM1 hH
set_option maxHeartbeats 4000000 in
set_option maxRecDepth 100000 in
theorem lw_c12 (E : Cx p s m #[Value.ref b] meth c cL_law 4 RL rt D (tyW cI cS cO)) (X : LX s A b L xs) (hj : ∀ t : Nat, t < 6 → vp_in (nI (6 * j) + nI t) L) (hcs : cells + 3 ≤ 600000 ∧ slots + 809 ≤ 7302250) (hC : RelC C S) (hM : RelM M S) (hH : HX D (wC cI cO a ad C ++ wM cI cS am M) A s.heap H locs) (hl : lv_has ls 4 [(0, .ref b), (1, .ref (a 0)), (2, .ref (am 0)), (3, .int (nI (6 * j)))]) (K : LKo p l e s m b below meth c D cI cS cO a am A Q ls cells slots) : W p l e room_1 s m #[Value.ref b] below meth c H locs cells slots Q (F0 m 666 ls []) := by
  have hx := E.1
  have hb := E.2.1
  obtain ⟨hX, hbl, hbA⟩ := X
  refine lv_aload_n hx hb dL_law_666 rfl (lv_at hl 1 rfl) ?_
  refine lv_aload_n hx hb dL_law_667 rfl (lv_at hl 0 rfl) ?_
  refine lv_iload_n hx hb dL_law_668 rfl (lv_at hl 3 rfl) ?_
  refine lv_iconst (v := (1 : Int32)) hx hb dL_law_669 (by decide) ?_
  refine lv_iadd hx hb dL_law_670 ?_
  refine va_sld hx hb hX hbl hbA hH.2.2.1 (hj 1 (by decide)) dL_law_671 ?_
  refine lv_aload_n hx hb dL_law_672 rfl (lv_at hl 0 rfl) ?_
  refine lv_iload_n hx hb dL_law_673 rfl (lv_at hl 3 rfl) ?_
  refine lv_iconst (v := (2 : Int32)) hx hb dL_law_674 (by decide) ?_
  refine lv_iadd hx hb dL_law_675 ?_
  refine va_sld hx hb hX hbl hbA hH.2.2.1 (hj 2 (by decide)) dL_law_676 ?_
  refine x_fi (x_runV (As := [.int (xs (Int32.toNatClampNeg (nI (6 * j) + (1 : Int32)))), .int (xs (Int32.toNatClampNeg (nI (6 * j) + (2 : Int32))))]) (rest := []) E (c_X3_at (post := fun r u => r = (sp_at S (xs (Int32.toNatClampNeg (nI (6 * j) + (1 : Int32)))) (xs (Int32.toNatClampNeg (nI (6 * j) + (2 : Int32))))).1 ∧ RelC u (sp_at S (xs (Int32.toNatClampNeg (nI (6 * j) + (1 : Int32)))) (xs (Int32.toNatClampNeg (nI (6 * j) + (2 : Int32))))).2) (pc_at hC (fun _ h9 => ⟨rfl, h9⟩))) yk_X3_at yi_X3_at km_L_68 ⟨Nat.le_of_ble_eq_true rfl, Nat.le_of_ble_eq_true rfl⟩ ⟨by show _ ≤ 600000; omega, by show _ ≤ 7302250; omega⟩ (x_part hH) (va_recv E.2.2.2.2.2.1 (x_part hH).1 (ci := 3) (q0 := 0) rfl wC_g0) hl.1 rfl rfl (lv_room (Nat.le_of_ble_eq_true rfl)) dL_law_677) hH (fun r u H locs h9 hH => ?_)
  obtain ⟨er, hC1⟩ := h9
  subst er
  have hH := x_swap hH
  refine lv_aload_n hx hb dL_law_680 rfl (lv_at hl 2 rfl) ?_
  refine lv_aload_n hx hb dL_law_681 rfl (lv_at hl 0 rfl) ?_
  refine lv_iload_n hx hb dL_law_682 rfl (lv_at hl 3 rfl) ?_
  refine lv_iconst (v := (1 : Int32)) hx hb dL_law_683 (by decide) ?_
  refine lv_iadd hx hb dL_law_684 ?_
  refine va_sld hx hb hX hbl hbA hH.2.2.1 (hj 1 (by decide)) dL_law_685 ?_
  refine lv_aload_n hx hb dL_law_686 rfl (lv_at hl 0 rfl) ?_
  refine lv_iload_n hx hb dL_law_687 rfl (lv_at hl 3 rfl) ?_
  refine lv_iconst (v := (2 : Int32)) hx hb dL_law_688 (by decide) ?_
  refine lv_iadd hx hb dL_law_689 ?_
  refine va_sld hx hb hX hbl hbA hH.2.2.1 (hj 2 (by decide)) dL_law_690 ?_
  refine x_fi (x_runV (As := [.int (xs (Int32.toNatClampNeg (nI (6 * j) + (1 : Int32)))), .int (xs (Int32.toNatClampNeg (nI (6 * j) + (2 : Int32))))]) (rest := [.int (sp_at S (xs (Int32.toNatClampNeg (nI (6 * j) + (1 : Int32)))) (xs (Int32.toNatClampNeg (nI (6 * j) + (2 : Int32))))).1]) E (c_X4_at (post := fun r u => r = (sp_at S (xs (Int32.toNatClampNeg (nI (6 * j) + (1 : Int32)))) (xs (Int32.toNatClampNeg (nI (6 * j) + (2 : Int32))))).1 ∧ RelM u (sp_at S (xs (Int32.toNatClampNeg (nI (6 * j) + (1 : Int32)))) (xs (Int32.toNatClampNeg (nI (6 * j) + (2 : Int32))))).2) (pm_at hM (fun _ h9 => ⟨rfl, h9⟩))) yk_X4_at yi_X4_at km_L_71 ⟨Nat.le_of_ble_eq_true rfl, Nat.le_of_ble_eq_true rfl⟩ ⟨by show _ ≤ 600000; omega, by show _ ≤ 7302250; omega⟩ (x_part hH) (va_recv E.2.2.2.2.2.1 (x_part hH).1 (ci := 4) (q0 := 0) rfl wM_g0) hl.1 rfl rfl (lv_room (Nat.le_of_ble_eq_true rfl)) dL_law_691) hH (fun r u H locs h9 hH => ?_)
  obtain ⟨er, hM1⟩ := h9
  subst er
  have hH := x_swap hH
  refine lv_icmp_eq (tgt := 1472) hx hb dL_law_694 (by decide) (fun _ => ?_) (fun h9 => absurd rfl h9)
  refine W.widen (k := cells + 3) (n := slots + 809) (by omega) (by omega) ?_
  exact K _ _ _ _ _ _ hC1 hM1 hH
set_option maxHeartbeats 4000000 in
set_option maxRecDepth 100000 in
theorem lw_c13 (E : Cx p s m #[Value.ref b] meth c cL_law 4 RL rt D (tyW cI cS cO)) (X : LX s A b L xs) (hj : ∀ t : Nat, t < 6 → vp_in (nI (6 * j) + nI t) L) (hcs : cells + 3 ≤ 600000 ∧ slots + 809 ≤ 7302250) (hC : RelC C S) (hM : RelM M S) (hH : HX D (wC cI cO a ad C ++ wM cI cS am M) A s.heap H locs) (hl : lv_has ls 4 [(0, .ref b), (1, .ref (a 0)), (2, .ref (am 0)), (3, .int (nI (6 * j)))]) (K : LKo p l e s m b below meth c D cI cS cO a am A Q ls cells slots) : W p l e room_1 s m #[Value.ref b] below meth c H locs cells slots Q (F0 m 699 ls []) := by
  have hx := E.1
  have hb := E.2.1
  obtain ⟨hX, hbl, hbA⟩ := X
  refine lv_aload_n hx hb dL_law_699 rfl (lv_at hl 1 rfl) ?_
  refine lv_aload_n hx hb dL_law_700 rfl (lv_at hl 0 rfl) ?_
  refine lv_iload_n hx hb dL_law_701 rfl (lv_at hl 3 rfl) ?_
  refine lv_iconst (v := (1 : Int32)) hx hb dL_law_702 (by decide) ?_
  refine lv_iadd hx hb dL_law_703 ?_
  refine va_sld hx hb hX hbl hbA hH.2.2.1 (hj 1 (by decide)) dL_law_704 ?_
  refine lv_aload_n hx hb dL_law_705 rfl (lv_at hl 0 rfl) ?_
  refine lv_iload_n hx hb dL_law_706 rfl (lv_at hl 3 rfl) ?_
  refine lv_iconst (v := (2 : Int32)) hx hb dL_law_707 (by decide) ?_
  refine lv_iadd hx hb dL_law_708 ?_
  refine va_sld hx hb hX hbl hbA hH.2.2.1 (hj 2 (by decide)) dL_law_709 ?_
  refine x_fl (x_runV (As := [.int (xs (Int32.toNatClampNeg (nI (6 * j) + (1 : Int32)))), .int (xs (Int32.toNatClampNeg (nI (6 * j) + (2 : Int32))))]) (rest := []) E (c_X3_weight (post := fun r u => r = (sp_weight S (xs (Int32.toNatClampNeg (nI (6 * j) + (1 : Int32)))) (xs (Int32.toNatClampNeg (nI (6 * j) + (2 : Int32))))).1 ∧ RelC u (sp_weight S (xs (Int32.toNatClampNeg (nI (6 * j) + (1 : Int32)))) (xs (Int32.toNatClampNeg (nI (6 * j) + (2 : Int32))))).2) (pc_weight hC (fun _ h9 => ⟨rfl, h9⟩))) yk_X3_weight yi_X3_weight km_L_72 ⟨Nat.le_of_ble_eq_true rfl, Nat.le_of_ble_eq_true rfl⟩ ⟨by show _ ≤ 600000; omega, by show _ ≤ 7302250; omega⟩ (x_part hH) (va_recv E.2.2.2.2.2.1 (x_part hH).1 (ci := 3) (q0 := 0) rfl wC_g0) hl.1 rfl rfl (lv_room (Nat.le_of_ble_eq_true rfl)) dL_law_710) hH (fun r u H locs h9 hH => ?_)
  obtain ⟨er, hC1⟩ := h9
  subst er
  have hH := x_swap hH
  refine lv_aload_n hx hb dL_law_713 rfl (lv_at hl 2 rfl) ?_
  refine lv_aload_n hx hb dL_law_714 rfl (lv_at hl 0 rfl) ?_
  refine lv_iload_n hx hb dL_law_715 rfl (lv_at hl 3 rfl) ?_
  refine lv_iconst (v := (1 : Int32)) hx hb dL_law_716 (by decide) ?_
  refine lv_iadd hx hb dL_law_717 ?_
  refine va_sld hx hb hX hbl hbA hH.2.2.1 (hj 1 (by decide)) dL_law_718 ?_
  refine lv_aload_n hx hb dL_law_719 rfl (lv_at hl 0 rfl) ?_
  refine lv_iload_n hx hb dL_law_720 rfl (lv_at hl 3 rfl) ?_
  refine lv_iconst (v := (2 : Int32)) hx hb dL_law_721 (by decide) ?_
  refine lv_iadd hx hb dL_law_722 ?_
  refine va_sld hx hb hX hbl hbA hH.2.2.1 (hj 2 (by decide)) dL_law_723 ?_
  refine x_fl (x_runV (As := [.int (xs (Int32.toNatClampNeg (nI (6 * j) + (1 : Int32)))), .int (xs (Int32.toNatClampNeg (nI (6 * j) + (2 : Int32))))]) (rest := [.long (sp_weight S (xs (Int32.toNatClampNeg (nI (6 * j) + (1 : Int32)))) (xs (Int32.toNatClampNeg (nI (6 * j) + (2 : Int32))))).1]) E (c_X4_weight (post := fun r u => r = (sp_weight S (xs (Int32.toNatClampNeg (nI (6 * j) + (1 : Int32)))) (xs (Int32.toNatClampNeg (nI (6 * j) + (2 : Int32))))).1 ∧ RelM u (sp_weight S (xs (Int32.toNatClampNeg (nI (6 * j) + (1 : Int32)))) (xs (Int32.toNatClampNeg (nI (6 * j) + (2 : Int32))))).2) (pm_weight hM (fun _ h9 => ⟨rfl, h9⟩))) yk_X4_weight yi_X4_weight km_L_76 ⟨Nat.le_of_ble_eq_true rfl, Nat.le_of_ble_eq_true rfl⟩ ⟨by show _ ≤ 600000; omega, by show _ ≤ 7302250; omega⟩ (x_part hH) (va_recv E.2.2.2.2.2.1 (x_part hH).1 (ci := 4) (q0 := 0) rfl wM_g0) hl.1 rfl rfl (lv_room (Nat.le_of_ble_eq_true rfl)) dL_law_724) hH (fun r u H locs h9 hH => ?_)
  obtain ⟨er, hM1⟩ := h9
  subst er
  have hH := x_swap hH
  refine W.lcmp hx hb dL_law_727 ?_
  refine lv_if_eq (tgt := 1472) hx hb dL_law_728 (by decide) (fun _ => ?_) (fun h9 => absurd ((lg_cmp_eq _ _).mpr rfl) h9)
  refine W.widen (k := cells + 3) (n := slots + 809) (by omega) (by omega) ?_
  exact K _ _ _ _ _ _ hC1 hM1 hH
set_option maxHeartbeats 4000000 in
set_option maxRecDepth 100000 in
theorem lw_c14 (E : Cx p s m #[Value.ref b] meth c cL_law 4 RL rt D (tyW cI cS cO)) (X : LX s A b L xs) (hj : ∀ t : Nat, t < 6 → vp_in (nI (6 * j) + nI t) L) (hcs : cells + 3 ≤ 600000 ∧ slots + 809 ≤ 7302250) (hC : RelC C S) (hM : RelM M S) (hH : HX D (wC cI cO a ad C ++ wM cI cS am M) A s.heap H locs) (hl : lv_has ls 4 [(0, .ref b), (1, .ref (a 0)), (2, .ref (am 0)), (3, .int (nI (6 * j)))]) (K : LKo p l e s m b below meth c D cI cS cO a am A Q ls cells slots) : W p l e room_1 s m #[Value.ref b] below meth c H locs cells slots Q (F0 m 733 ls []) := by
  have hx := E.1
  have hb := E.2.1
  obtain ⟨hX, hbl, hbA⟩ := X
  refine lv_aload_n hx hb dL_law_733 rfl (lv_at hl 1 rfl) ?_
  refine lv_aload_n hx hb dL_law_734 rfl (lv_at hl 0 rfl) ?_
  refine lv_iload_n hx hb dL_law_735 rfl (lv_at hl 3 rfl) ?_
  refine lv_iconst (v := (1 : Int32)) hx hb dL_law_736 (by decide) ?_
  refine lv_iadd hx hb dL_law_737 ?_
  refine va_sld hx hb hX hbl hbA hH.2.2.1 (hj 1 (by decide)) dL_law_738 ?_
  refine lv_aload_n hx hb dL_law_739 rfl (lv_at hl 0 rfl) ?_
  refine lv_iload_n hx hb dL_law_740 rfl (lv_at hl 3 rfl) ?_
  refine lv_iconst (v := (2 : Int32)) hx hb dL_law_741 (by decide) ?_
  refine lv_iadd hx hb dL_law_742 ?_
  refine va_sld hx hb hX hbl hbA hH.2.2.1 (hj 2 (by decide)) dL_law_743 ?_
  refine lv_aload_n hx hb dL_law_744 rfl (lv_at hl 0 rfl) ?_
  refine lv_iload_n hx hb dL_law_745 rfl (lv_at hl 3 rfl) ?_
  refine lv_iconst (v := (3 : Int32)) hx hb dL_law_746 (by decide) ?_
  refine lv_iadd hx hb dL_law_747 ?_
  refine va_sld hx hb hX hbl hbA hH.2.2.1 (hj 3 (by decide)) dL_law_748 ?_
  refine x_fi (x_runV (As := [.int (xs (Int32.toNatClampNeg (nI (6 * j) + (1 : Int32)))), .int (xs (Int32.toNatClampNeg (nI (6 * j) + (2 : Int32)))), .int (xs (Int32.toNatClampNeg (nI (6 * j) + (3 : Int32))))]) (rest := []) E (c_X3_bit (post := fun r u => r = (sp_bit S (xs (Int32.toNatClampNeg (nI (6 * j) + (1 : Int32)))) (xs (Int32.toNatClampNeg (nI (6 * j) + (2 : Int32)))) (xs (Int32.toNatClampNeg (nI (6 * j) + (3 : Int32))))).1 ∧ RelC u (sp_bit S (xs (Int32.toNatClampNeg (nI (6 * j) + (1 : Int32)))) (xs (Int32.toNatClampNeg (nI (6 * j) + (2 : Int32)))) (xs (Int32.toNatClampNeg (nI (6 * j) + (3 : Int32))))).2) (pc_bit hC (fun _ h9 => ⟨rfl, h9⟩))) yk_X3_bit yi_X3_bit km_L_77 ⟨Nat.le_of_ble_eq_true rfl, Nat.le_of_ble_eq_true rfl⟩ ⟨by show _ ≤ 600000; omega, by show _ ≤ 7302250; omega⟩ (x_part hH) (va_recv E.2.2.2.2.2.1 (x_part hH).1 (ci := 3) (q0 := 0) rfl wC_g0) hl.1 rfl rfl (lv_room (Nat.le_of_ble_eq_true rfl)) dL_law_749) hH (fun r u H locs h9 hH => ?_)
  obtain ⟨er, hC1⟩ := h9
  subst er
  have hH := x_swap hH
  refine lv_aload_n hx hb dL_law_752 rfl (lv_at hl 2 rfl) ?_
  refine lv_aload_n hx hb dL_law_753 rfl (lv_at hl 0 rfl) ?_
  refine lv_iload_n hx hb dL_law_754 rfl (lv_at hl 3 rfl) ?_
  refine lv_iconst (v := (1 : Int32)) hx hb dL_law_755 (by decide) ?_
  refine lv_iadd hx hb dL_law_756 ?_
  refine va_sld hx hb hX hbl hbA hH.2.2.1 (hj 1 (by decide)) dL_law_757 ?_
  refine lv_aload_n hx hb dL_law_758 rfl (lv_at hl 0 rfl) ?_
  refine lv_iload_n hx hb dL_law_759 rfl (lv_at hl 3 rfl) ?_
  refine lv_iconst (v := (2 : Int32)) hx hb dL_law_760 (by decide) ?_
  refine lv_iadd hx hb dL_law_761 ?_
  refine va_sld hx hb hX hbl hbA hH.2.2.1 (hj 2 (by decide)) dL_law_762 ?_
  refine lv_aload_n hx hb dL_law_763 rfl (lv_at hl 0 rfl) ?_
  refine lv_iload_n hx hb dL_law_764 rfl (lv_at hl 3 rfl) ?_
  refine lv_iconst (v := (3 : Int32)) hx hb dL_law_765 (by decide) ?_
  refine lv_iadd hx hb dL_law_766 ?_
  refine va_sld hx hb hX hbl hbA hH.2.2.1 (hj 3 (by decide)) dL_law_767 ?_
  refine x_fi (x_runV (As := [.int (xs (Int32.toNatClampNeg (nI (6 * j) + (1 : Int32)))), .int (xs (Int32.toNatClampNeg (nI (6 * j) + (2 : Int32)))), .int (xs (Int32.toNatClampNeg (nI (6 * j) + (3 : Int32))))]) (rest := [.int (sp_bit S (xs (Int32.toNatClampNeg (nI (6 * j) + (1 : Int32)))) (xs (Int32.toNatClampNeg (nI (6 * j) + (2 : Int32)))) (xs (Int32.toNatClampNeg (nI (6 * j) + (3 : Int32))))).1]) E (c_X4_bit (post := fun r u => r = (sp_bit S (xs (Int32.toNatClampNeg (nI (6 * j) + (1 : Int32)))) (xs (Int32.toNatClampNeg (nI (6 * j) + (2 : Int32)))) (xs (Int32.toNatClampNeg (nI (6 * j) + (3 : Int32))))).1 ∧ RelM u (sp_bit S (xs (Int32.toNatClampNeg (nI (6 * j) + (1 : Int32)))) (xs (Int32.toNatClampNeg (nI (6 * j) + (2 : Int32)))) (xs (Int32.toNatClampNeg (nI (6 * j) + (3 : Int32))))).2) (pm_bit hM (fun _ h9 => ⟨rfl, h9⟩))) yk_X4_bit yi_X4_bit km_L_80 ⟨Nat.le_of_ble_eq_true rfl, Nat.le_of_ble_eq_true rfl⟩ ⟨by show _ ≤ 600000; omega, by show _ ≤ 7302250; omega⟩ (x_part hH) (va_recv E.2.2.2.2.2.1 (x_part hH).1 (ci := 4) (q0 := 0) rfl wM_g0) hl.1 rfl rfl (lv_room (Nat.le_of_ble_eq_true rfl)) dL_law_768) hH (fun r u H locs h9 hH => ?_)
  obtain ⟨er, hM1⟩ := h9
  subst er
  have hH := x_swap hH
  refine lv_icmp_eq (tgt := 1472) hx hb dL_law_771 (by decide) (fun _ => ?_) (fun h9 => absurd rfl h9)
  refine W.widen (k := cells + 3) (n := slots + 809) (by omega) (by omega) ?_
  exact K _ _ _ _ _ _ hC1 hM1 hH
set_option maxHeartbeats 4000000 in
set_option maxRecDepth 100000 in
theorem lw_c15 (E : Cx p s m #[Value.ref b] meth c cL_law 4 RL rt D (tyW cI cS cO)) (X : LX s A b L xs) (hj : ∀ t : Nat, t < 6 → vp_in (nI (6 * j) + nI t) L) (hcs : cells + 3 ≤ 600000 ∧ slots + 809 ≤ 7302250) (hC : RelC C S) (hM : RelM M S) (hH : HX D (wC cI cO a ad C ++ wM cI cS am M) A s.heap H locs) (hl : lv_has ls 4 [(0, .ref b), (1, .ref (a 0)), (2, .ref (am 0)), (3, .int (nI (6 * j)))]) (K : LKo p l e s m b below meth c D cI cS cO a am A Q ls cells slots) : W p l e room_1 s m #[Value.ref b] below meth c H locs cells slots Q (F0 m 776 ls []) := by
  have hx := E.1
  have hb := E.2.1
  obtain ⟨hX, hbl, hbA⟩ := X
  refine lv_aload_n hx hb dL_law_776 rfl (lv_at hl 1 rfl) ?_
  refine lv_aload_n hx hb dL_law_777 rfl (lv_at hl 0 rfl) ?_
  refine lv_iload_n hx hb dL_law_778 rfl (lv_at hl 3 rfl) ?_
  refine lv_iconst (v := (1 : Int32)) hx hb dL_law_779 (by decide) ?_
  refine lv_iadd hx hb dL_law_780 ?_
  refine va_sld hx hb hX hbl hbA hH.2.2.1 (hj 1 (by decide)) dL_law_781 ?_
  refine lv_aload_n hx hb dL_law_782 rfl (lv_at hl 0 rfl) ?_
  refine lv_iload_n hx hb dL_law_783 rfl (lv_at hl 3 rfl) ?_
  refine lv_iconst (v := (2 : Int32)) hx hb dL_law_784 (by decide) ?_
  refine lv_iadd hx hb dL_law_785 ?_
  refine va_sld hx hb hX hbl hbA hH.2.2.1 (hj 2 (by decide)) dL_law_786 ?_
  refine lv_aload_n hx hb dL_law_787 rfl (lv_at hl 0 rfl) ?_
  refine lv_iload_n hx hb dL_law_788 rfl (lv_at hl 3 rfl) ?_
  refine lv_iconst (v := (3 : Int32)) hx hb dL_law_789 (by decide) ?_
  refine lv_iadd hx hb dL_law_790 ?_
  refine va_sld hx hb hX hbl hbA hH.2.2.1 (hj 3 (by decide)) dL_law_791 ?_
  refine x_fi (x_runV (As := [.int (xs (Int32.toNatClampNeg (nI (6 * j) + (1 : Int32)))), .int (xs (Int32.toNatClampNeg (nI (6 * j) + (2 : Int32)))), .int (xs (Int32.toNatClampNeg (nI (6 * j) + (3 : Int32))))]) (rest := []) E (c_X3_ones (post := fun r u => r = (sp_ones S (xs (Int32.toNatClampNeg (nI (6 * j) + (1 : Int32)))) (xs (Int32.toNatClampNeg (nI (6 * j) + (2 : Int32)))) (xs (Int32.toNatClampNeg (nI (6 * j) + (3 : Int32))))).1 ∧ RelC u (sp_ones S (xs (Int32.toNatClampNeg (nI (6 * j) + (1 : Int32)))) (xs (Int32.toNatClampNeg (nI (6 * j) + (2 : Int32)))) (xs (Int32.toNatClampNeg (nI (6 * j) + (3 : Int32))))).2) (pc_ones hC (fun _ h9 => ⟨rfl, h9⟩))) yk_X3_ones yi_X3_ones km_L_81 ⟨Nat.le_of_ble_eq_true rfl, Nat.le_of_ble_eq_true rfl⟩ ⟨by show _ ≤ 600000; omega, by show _ ≤ 7302250; omega⟩ (x_part hH) (va_recv E.2.2.2.2.2.1 (x_part hH).1 (ci := 3) (q0 := 0) rfl wC_g0) hl.1 rfl rfl (lv_room (Nat.le_of_ble_eq_true rfl)) dL_law_792) hH (fun r u H locs h9 hH => ?_)
  obtain ⟨er, hC1⟩ := h9
  subst er
  have hH := x_swap hH
  refine lv_aload_n hx hb dL_law_795 rfl (lv_at hl 2 rfl) ?_
  refine lv_aload_n hx hb dL_law_796 rfl (lv_at hl 0 rfl) ?_
  refine lv_iload_n hx hb dL_law_797 rfl (lv_at hl 3 rfl) ?_
  refine lv_iconst (v := (1 : Int32)) hx hb dL_law_798 (by decide) ?_
  refine lv_iadd hx hb dL_law_799 ?_
  refine va_sld hx hb hX hbl hbA hH.2.2.1 (hj 1 (by decide)) dL_law_800 ?_
  refine lv_aload_n hx hb dL_law_801 rfl (lv_at hl 0 rfl) ?_
  refine lv_iload_n hx hb dL_law_802 rfl (lv_at hl 3 rfl) ?_
  refine lv_iconst (v := (2 : Int32)) hx hb dL_law_803 (by decide) ?_
  refine lv_iadd hx hb dL_law_804 ?_
  refine va_sld hx hb hX hbl hbA hH.2.2.1 (hj 2 (by decide)) dL_law_805 ?_
  refine lv_aload_n hx hb dL_law_806 rfl (lv_at hl 0 rfl) ?_
  refine lv_iload_n hx hb dL_law_807 rfl (lv_at hl 3 rfl) ?_
  refine lv_iconst (v := (3 : Int32)) hx hb dL_law_808 (by decide) ?_
  refine lv_iadd hx hb dL_law_809 ?_
  refine va_sld hx hb hX hbl hbA hH.2.2.1 (hj 3 (by decide)) dL_law_810 ?_
  refine x_fi (x_runV (As := [.int (xs (Int32.toNatClampNeg (nI (6 * j) + (1 : Int32)))), .int (xs (Int32.toNatClampNeg (nI (6 * j) + (2 : Int32)))), .int (xs (Int32.toNatClampNeg (nI (6 * j) + (3 : Int32))))]) (rest := [.int (sp_ones S (xs (Int32.toNatClampNeg (nI (6 * j) + (1 : Int32)))) (xs (Int32.toNatClampNeg (nI (6 * j) + (2 : Int32)))) (xs (Int32.toNatClampNeg (nI (6 * j) + (3 : Int32))))).1]) E (c_X4_ones (post := fun r u => r = (sp_ones S (xs (Int32.toNatClampNeg (nI (6 * j) + (1 : Int32)))) (xs (Int32.toNatClampNeg (nI (6 * j) + (2 : Int32)))) (xs (Int32.toNatClampNeg (nI (6 * j) + (3 : Int32))))).1 ∧ RelM u (sp_ones S (xs (Int32.toNatClampNeg (nI (6 * j) + (1 : Int32)))) (xs (Int32.toNatClampNeg (nI (6 * j) + (2 : Int32)))) (xs (Int32.toNatClampNeg (nI (6 * j) + (3 : Int32))))).2) (pm_ones hM (fun _ h9 => ⟨rfl, h9⟩))) yk_X4_ones yi_X4_ones km_L_84 ⟨Nat.le_of_ble_eq_true rfl, Nat.le_of_ble_eq_true rfl⟩ ⟨by show _ ≤ 600000; omega, by show _ ≤ 7302250; omega⟩ (x_part hH) (va_recv E.2.2.2.2.2.1 (x_part hH).1 (ci := 4) (q0 := 0) rfl wM_g0) hl.1 rfl rfl (lv_room (Nat.le_of_ble_eq_true rfl)) dL_law_811) hH (fun r u H locs h9 hH => ?_)
  obtain ⟨er, hM1⟩ := h9
  subst er
  have hH := x_swap hH
  refine lv_icmp_eq (tgt := 1472) hx hb dL_law_814 (by decide) (fun _ => ?_) (fun h9 => absurd rfl h9)
  refine W.widen (k := cells + 3) (n := slots + 809) (by omega) (by omega) ?_
  exact K _ _ _ _ _ _ hC1 hM1 hH
set_option maxHeartbeats 4000000 in
set_option maxRecDepth 100000 in
theorem lw_c16 (E : Cx p s m #[Value.ref b] meth c cL_law 4 RL rt D (tyW cI cS cO)) (X : LX s A b L xs) (hj : ∀ t : Nat, t < 6 → vp_in (nI (6 * j) + nI t) L) (hcs : cells + 3 ≤ 600000 ∧ slots + 809 ≤ 7302250) (hC : RelC C S) (hM : RelM M S) (hH : HX D (wC cI cO a ad C ++ wM cI cS am M) A s.heap H locs) (hl : lv_has ls 4 [(0, .ref b), (1, .ref (a 0)), (2, .ref (am 0)), (3, .int (nI (6 * j)))]) (K : LKo p l e s m b below meth c D cI cS cO a am A Q ls cells slots) : W p l e room_1 s m #[Value.ref b] below meth c H locs cells slots Q (F0 m 819 ls []) := by
  have hx := E.1
  have hb := E.2.1
  obtain ⟨hX, hbl, hbA⟩ := X
  refine lv_aload_n hx hb dL_law_819 rfl (lv_at hl 1 rfl) ?_
  refine lv_aload_n hx hb dL_law_820 rfl (lv_at hl 0 rfl) ?_
  refine lv_iload_n hx hb dL_law_821 rfl (lv_at hl 3 rfl) ?_
  refine lv_iconst (v := (1 : Int32)) hx hb dL_law_822 (by decide) ?_
  refine lv_iadd hx hb dL_law_823 ?_
  refine va_sld hx hb hX hbl hbA hH.2.2.1 (hj 1 (by decide)) dL_law_824 ?_
  refine lv_aload_n hx hb dL_law_825 rfl (lv_at hl 0 rfl) ?_
  refine lv_iload_n hx hb dL_law_826 rfl (lv_at hl 3 rfl) ?_
  refine lv_iconst (v := (2 : Int32)) hx hb dL_law_827 (by decide) ?_
  refine lv_iadd hx hb dL_law_828 ?_
  refine va_sld hx hb hX hbl hbA hH.2.2.1 (hj 2 (by decide)) dL_law_829 ?_
  refine lv_aload_n hx hb dL_law_830 rfl (lv_at hl 0 rfl) ?_
  refine lv_iload_n hx hb dL_law_831 rfl (lv_at hl 3 rfl) ?_
  refine lv_iconst (v := (3 : Int32)) hx hb dL_law_832 (by decide) ?_
  refine lv_iadd hx hb dL_law_833 ?_
  refine va_sld hx hb hX hbl hbA hH.2.2.1 (hj 3 (by decide)) dL_law_834 ?_
  refine lv_aload_n hx hb dL_law_835 rfl (lv_at hl 0 rfl) ?_
  refine lv_iload_n hx hb dL_law_836 rfl (lv_at hl 3 rfl) ?_
  refine lv_iconst (v := (4 : Int32)) hx hb dL_law_837 (by decide) ?_
  refine lv_iadd hx hb dL_law_838 ?_
  refine va_sld hx hb hX hbl hbA hH.2.2.1 (hj 4 (by decide)) dL_law_839 ?_
  refine x_fi (x_runV (As := [.int (xs (Int32.toNatClampNeg (nI (6 * j) + (1 : Int32)))), .int (xs (Int32.toNatClampNeg (nI (6 * j) + (2 : Int32)))), .int (xs (Int32.toNatClampNeg (nI (6 * j) + (3 : Int32)))), .int (xs (Int32.toNatClampNeg (nI (6 * j) + (4 : Int32))))]) (rest := []) E (c_X3_kth (post := fun r u => r = (sp_kth S (xs (Int32.toNatClampNeg (nI (6 * j) + (1 : Int32)))) (xs (Int32.toNatClampNeg (nI (6 * j) + (2 : Int32)))) (xs (Int32.toNatClampNeg (nI (6 * j) + (3 : Int32)))) (xs (Int32.toNatClampNeg (nI (6 * j) + (4 : Int32))))).1 ∧ RelC u (sp_kth S (xs (Int32.toNatClampNeg (nI (6 * j) + (1 : Int32)))) (xs (Int32.toNatClampNeg (nI (6 * j) + (2 : Int32)))) (xs (Int32.toNatClampNeg (nI (6 * j) + (3 : Int32)))) (xs (Int32.toNatClampNeg (nI (6 * j) + (4 : Int32))))).2) (pc_kth hC (fun _ h9 => ⟨rfl, h9⟩))) yk_X3_kth yi_X3_kth km_L_85 ⟨Nat.le_of_ble_eq_true rfl, Nat.le_of_ble_eq_true rfl⟩ ⟨by show _ ≤ 600000; omega, by show _ ≤ 7302250; omega⟩ (x_part hH) (va_recv E.2.2.2.2.2.1 (x_part hH).1 (ci := 3) (q0 := 0) rfl wC_g0) hl.1 rfl rfl (lv_room (Nat.le_of_ble_eq_true rfl)) dL_law_840) hH (fun r u H locs h9 hH => ?_)
  obtain ⟨er, hC1⟩ := h9
  subst er
  have hH := x_swap hH
  refine lv_aload_n hx hb dL_law_843 rfl (lv_at hl 2 rfl) ?_
  refine lv_aload_n hx hb dL_law_844 rfl (lv_at hl 0 rfl) ?_
  refine lv_iload_n hx hb dL_law_845 rfl (lv_at hl 3 rfl) ?_
  refine lv_iconst (v := (1 : Int32)) hx hb dL_law_846 (by decide) ?_
  refine lv_iadd hx hb dL_law_847 ?_
  refine va_sld hx hb hX hbl hbA hH.2.2.1 (hj 1 (by decide)) dL_law_848 ?_
  refine lv_aload_n hx hb dL_law_849 rfl (lv_at hl 0 rfl) ?_
  refine lv_iload_n hx hb dL_law_850 rfl (lv_at hl 3 rfl) ?_
  refine lv_iconst (v := (2 : Int32)) hx hb dL_law_851 (by decide) ?_
  refine lv_iadd hx hb dL_law_852 ?_
  refine va_sld hx hb hX hbl hbA hH.2.2.1 (hj 2 (by decide)) dL_law_853 ?_
  refine lv_aload_n hx hb dL_law_854 rfl (lv_at hl 0 rfl) ?_
  refine lv_iload_n hx hb dL_law_855 rfl (lv_at hl 3 rfl) ?_
  refine lv_iconst (v := (3 : Int32)) hx hb dL_law_856 (by decide) ?_
  refine lv_iadd hx hb dL_law_857 ?_
  refine va_sld hx hb hX hbl hbA hH.2.2.1 (hj 3 (by decide)) dL_law_858 ?_
  refine lv_aload_n hx hb dL_law_859 rfl (lv_at hl 0 rfl) ?_
  refine lv_iload_n hx hb dL_law_860 rfl (lv_at hl 3 rfl) ?_
  refine lv_iconst (v := (4 : Int32)) hx hb dL_law_861 (by decide) ?_
  refine lv_iadd hx hb dL_law_862 ?_
  refine va_sld hx hb hX hbl hbA hH.2.2.1 (hj 4 (by decide)) dL_law_863 ?_
  refine x_fi (x_runV (As := [.int (xs (Int32.toNatClampNeg (nI (6 * j) + (1 : Int32)))), .int (xs (Int32.toNatClampNeg (nI (6 * j) + (2 : Int32)))), .int (xs (Int32.toNatClampNeg (nI (6 * j) + (3 : Int32)))), .int (xs (Int32.toNatClampNeg (nI (6 * j) + (4 : Int32))))]) (rest := [.int (sp_kth S (xs (Int32.toNatClampNeg (nI (6 * j) + (1 : Int32)))) (xs (Int32.toNatClampNeg (nI (6 * j) + (2 : Int32)))) (xs (Int32.toNatClampNeg (nI (6 * j) + (3 : Int32)))) (xs (Int32.toNatClampNeg (nI (6 * j) + (4 : Int32))))).1]) E (c_X4_kth (post := fun r u => r = (sp_kth S (xs (Int32.toNatClampNeg (nI (6 * j) + (1 : Int32)))) (xs (Int32.toNatClampNeg (nI (6 * j) + (2 : Int32)))) (xs (Int32.toNatClampNeg (nI (6 * j) + (3 : Int32)))) (xs (Int32.toNatClampNeg (nI (6 * j) + (4 : Int32))))).1 ∧ RelM u (sp_kth S (xs (Int32.toNatClampNeg (nI (6 * j) + (1 : Int32)))) (xs (Int32.toNatClampNeg (nI (6 * j) + (2 : Int32)))) (xs (Int32.toNatClampNeg (nI (6 * j) + (3 : Int32)))) (xs (Int32.toNatClampNeg (nI (6 * j) + (4 : Int32))))).2) (pm_kth hM (fun _ h9 => ⟨rfl, h9⟩))) yk_X4_kth yi_X4_kth km_L_88 ⟨Nat.le_of_ble_eq_true rfl, Nat.le_of_ble_eq_true rfl⟩ ⟨by show _ ≤ 600000; omega, by show _ ≤ 7302250; omega⟩ (x_part hH) (va_recv E.2.2.2.2.2.1 (x_part hH).1 (ci := 4) (q0 := 0) rfl wM_g0) hl.1 rfl rfl (lv_room (Nat.le_of_ble_eq_true rfl)) dL_law_864) hH (fun r u H locs h9 hH => ?_)
  obtain ⟨er, hM1⟩ := h9
  subst er
  have hH := x_swap hH
  refine lv_icmp_eq (tgt := 1472) hx hb dL_law_867 (by decide) (fun _ => ?_) (fun h9 => absurd rfl h9)
  refine W.widen (k := cells + 3) (n := slots + 809) (by omega) (by omega) ?_
  exact K _ _ _ _ _ _ hC1 hM1 hH
set_option maxHeartbeats 4000000 in
set_option maxRecDepth 100000 in
theorem lw_c17 (E : Cx p s m #[Value.ref b] meth c cL_law 4 RL rt D (tyW cI cS cO)) (X : LX s A b L xs) (hj : ∀ t : Nat, t < 6 → vp_in (nI (6 * j) + nI t) L) (hcs : cells + 3 ≤ 600000 ∧ slots + 809 ≤ 7302250) (hC : RelC C S) (hM : RelM M S) (hH : HX D (wC cI cO a ad C ++ wM cI cS am M) A s.heap H locs) (hl : lv_has ls 4 [(0, .ref b), (1, .ref (a 0)), (2, .ref (am 0)), (3, .int (nI (6 * j)))]) (K : LKo p l e s m b below meth c D cI cS cO a am A Q ls cells slots) : W p l e room_1 s m #[Value.ref b] below meth c H locs cells slots Q (F0 m 872 ls []) := by
  have hx := E.1
  have hb := E.2.1
  obtain ⟨hX, hbl, hbA⟩ := X
  refine lv_aload_n hx hb dL_law_872 rfl (lv_at hl 1 rfl) ?_
  refine lv_aload_n hx hb dL_law_873 rfl (lv_at hl 0 rfl) ?_
  refine lv_iload_n hx hb dL_law_874 rfl (lv_at hl 3 rfl) ?_
  refine lv_iconst (v := (1 : Int32)) hx hb dL_law_875 (by decide) ?_
  refine lv_iadd hx hb dL_law_876 ?_
  refine va_sld hx hb hX hbl hbA hH.2.2.1 (hj 1 (by decide)) dL_law_877 ?_
  refine lv_aload_n hx hb dL_law_878 rfl (lv_at hl 0 rfl) ?_
  refine lv_iload_n hx hb dL_law_879 rfl (lv_at hl 3 rfl) ?_
  refine lv_iconst (v := (2 : Int32)) hx hb dL_law_880 (by decide) ?_
  refine lv_iadd hx hb dL_law_881 ?_
  refine va_sld hx hb hX hbl hbA hH.2.2.1 (hj 2 (by decide)) dL_law_882 ?_
  refine lv_aload_n hx hb dL_law_883 rfl (lv_at hl 0 rfl) ?_
  refine lv_iload_n hx hb dL_law_884 rfl (lv_at hl 3 rfl) ?_
  refine lv_iconst (v := (3 : Int32)) hx hb dL_law_885 (by decide) ?_
  refine lv_iadd hx hb dL_law_886 ?_
  refine va_sld hx hb hX hbl hbA hH.2.2.1 (hj 3 (by decide)) dL_law_887 ?_
  refine lv_aload_n hx hb dL_law_888 rfl (lv_at hl 0 rfl) ?_
  refine lv_iload_n hx hb dL_law_889 rfl (lv_at hl 3 rfl) ?_
  refine lv_iconst (v := (4 : Int32)) hx hb dL_law_890 (by decide) ?_
  refine lv_iadd hx hb dL_law_891 ?_
  refine va_sld hx hb hX hbl hbA hH.2.2.1 (hj 4 (by decide)) dL_law_892 ?_
  refine x_fi (x_runV (As := [.int (xs (Int32.toNatClampNeg (nI (6 * j) + (1 : Int32)))), .int (xs (Int32.toNatClampNeg (nI (6 * j) + (2 : Int32)))), .int (xs (Int32.toNatClampNeg (nI (6 * j) + (3 : Int32)))), .int (xs (Int32.toNatClampNeg (nI (6 * j) + (4 : Int32))))]) (rest := []) E (c_X3_rank (post := fun r u => r = (sp_rank S (xs (Int32.toNatClampNeg (nI (6 * j) + (1 : Int32)))) (xs (Int32.toNatClampNeg (nI (6 * j) + (2 : Int32)))) (xs (Int32.toNatClampNeg (nI (6 * j) + (3 : Int32)))) (xs (Int32.toNatClampNeg (nI (6 * j) + (4 : Int32))))).1 ∧ RelC u (sp_rank S (xs (Int32.toNatClampNeg (nI (6 * j) + (1 : Int32)))) (xs (Int32.toNatClampNeg (nI (6 * j) + (2 : Int32)))) (xs (Int32.toNatClampNeg (nI (6 * j) + (3 : Int32)))) (xs (Int32.toNatClampNeg (nI (6 * j) + (4 : Int32))))).2) (pc_rank hC (fun _ h9 => ⟨rfl, h9⟩))) yk_X3_rank yi_X3_rank km_L_89 ⟨Nat.le_of_ble_eq_true rfl, Nat.le_of_ble_eq_true rfl⟩ ⟨by show _ ≤ 600000; omega, by show _ ≤ 7302250; omega⟩ (x_part hH) (va_recv E.2.2.2.2.2.1 (x_part hH).1 (ci := 3) (q0 := 0) rfl wC_g0) hl.1 rfl rfl (lv_room (Nat.le_of_ble_eq_true rfl)) dL_law_893) hH (fun r u H locs h9 hH => ?_)
  obtain ⟨er, hC1⟩ := h9
  subst er
  have hH := x_swap hH
  refine lv_aload_n hx hb dL_law_896 rfl (lv_at hl 2 rfl) ?_
  refine lv_aload_n hx hb dL_law_897 rfl (lv_at hl 0 rfl) ?_
  refine lv_iload_n hx hb dL_law_898 rfl (lv_at hl 3 rfl) ?_
  refine lv_iconst (v := (1 : Int32)) hx hb dL_law_899 (by decide) ?_
  refine lv_iadd hx hb dL_law_900 ?_
  refine va_sld hx hb hX hbl hbA hH.2.2.1 (hj 1 (by decide)) dL_law_901 ?_
  refine lv_aload_n hx hb dL_law_902 rfl (lv_at hl 0 rfl) ?_
  refine lv_iload_n hx hb dL_law_903 rfl (lv_at hl 3 rfl) ?_
  refine lv_iconst (v := (2 : Int32)) hx hb dL_law_904 (by decide) ?_
  refine lv_iadd hx hb dL_law_905 ?_
  refine va_sld hx hb hX hbl hbA hH.2.2.1 (hj 2 (by decide)) dL_law_906 ?_
  refine lv_aload_n hx hb dL_law_907 rfl (lv_at hl 0 rfl) ?_
  refine lv_iload_n hx hb dL_law_908 rfl (lv_at hl 3 rfl) ?_
  refine lv_iconst (v := (3 : Int32)) hx hb dL_law_909 (by decide) ?_
  refine lv_iadd hx hb dL_law_910 ?_
  refine va_sld hx hb hX hbl hbA hH.2.2.1 (hj 3 (by decide)) dL_law_911 ?_
  refine lv_aload_n hx hb dL_law_912 rfl (lv_at hl 0 rfl) ?_
  refine lv_iload_n hx hb dL_law_913 rfl (lv_at hl 3 rfl) ?_
  refine lv_iconst (v := (4 : Int32)) hx hb dL_law_914 (by decide) ?_
  refine lv_iadd hx hb dL_law_915 ?_
  refine va_sld hx hb hX hbl hbA hH.2.2.1 (hj 4 (by decide)) dL_law_916 ?_
  refine x_fi (x_runV (As := [.int (xs (Int32.toNatClampNeg (nI (6 * j) + (1 : Int32)))), .int (xs (Int32.toNatClampNeg (nI (6 * j) + (2 : Int32)))), .int (xs (Int32.toNatClampNeg (nI (6 * j) + (3 : Int32)))), .int (xs (Int32.toNatClampNeg (nI (6 * j) + (4 : Int32))))]) (rest := [.int (sp_rank S (xs (Int32.toNatClampNeg (nI (6 * j) + (1 : Int32)))) (xs (Int32.toNatClampNeg (nI (6 * j) + (2 : Int32)))) (xs (Int32.toNatClampNeg (nI (6 * j) + (3 : Int32)))) (xs (Int32.toNatClampNeg (nI (6 * j) + (4 : Int32))))).1]) E (c_X4_rank (post := fun r u => r = (sp_rank S (xs (Int32.toNatClampNeg (nI (6 * j) + (1 : Int32)))) (xs (Int32.toNatClampNeg (nI (6 * j) + (2 : Int32)))) (xs (Int32.toNatClampNeg (nI (6 * j) + (3 : Int32)))) (xs (Int32.toNatClampNeg (nI (6 * j) + (4 : Int32))))).1 ∧ RelM u (sp_rank S (xs (Int32.toNatClampNeg (nI (6 * j) + (1 : Int32)))) (xs (Int32.toNatClampNeg (nI (6 * j) + (2 : Int32)))) (xs (Int32.toNatClampNeg (nI (6 * j) + (3 : Int32)))) (xs (Int32.toNatClampNeg (nI (6 * j) + (4 : Int32))))).2) (pm_rank hM (fun _ h9 => ⟨rfl, h9⟩))) yk_X4_rank yi_X4_rank km_L_92 ⟨Nat.le_of_ble_eq_true rfl, Nat.le_of_ble_eq_true rfl⟩ ⟨by show _ ≤ 600000; omega, by show _ ≤ 7302250; omega⟩ (x_part hH) (va_recv E.2.2.2.2.2.1 (x_part hH).1 (ci := 4) (q0 := 0) rfl wM_g0) hl.1 rfl rfl (lv_room (Nat.le_of_ble_eq_true rfl)) dL_law_917) hH (fun r u H locs h9 hH => ?_)
  obtain ⟨er, hM1⟩ := h9
  subst er
  have hH := x_swap hH
  refine lv_icmp_eq (tgt := 1472) hx hb dL_law_920 (by decide) (fun _ => ?_) (fun h9 => absurd rfl h9)
  refine W.widen (k := cells + 3) (n := slots + 809) (by omega) (by omega) ?_
  exact K _ _ _ _ _ _ hC1 hM1 hH
set_option maxHeartbeats 4000000 in
set_option maxRecDepth 100000 in
theorem lw_c18 (E : Cx p s m #[Value.ref b] meth c cL_law 4 RL rt D (tyW cI cS cO)) (X : LX s A b L xs) (hj : ∀ t : Nat, t < 6 → vp_in (nI (6 * j) + nI t) L) (hcs : cells + 3 ≤ 600000 ∧ slots + 809 ≤ 7302250) (hC : RelC C S) (hM : RelM M S) (hH : HX D (wC cI cO a ad C ++ wM cI cS am M) A s.heap H locs) (hl : lv_has ls 4 [(0, .ref b), (1, .ref (a 0)), (2, .ref (am 0)), (3, .int (nI (6 * j)))]) (K : LKo p l e s m b below meth c D cI cS cO a am A Q ls cells slots) : W p l e room_1 s m #[Value.ref b] below meth c H locs cells slots Q (F0 m 925 ls []) := by
  have hx := E.1
  have hb := E.2.1
  obtain ⟨hX, hbl, hbA⟩ := X
  refine lv_aload_n hx hb dL_law_925 rfl (lv_at hl 1 rfl) ?_
  refine lv_aload_n hx hb dL_law_926 rfl (lv_at hl 0 rfl) ?_
  refine lv_iload_n hx hb dL_law_927 rfl (lv_at hl 3 rfl) ?_
  refine lv_iconst (v := (1 : Int32)) hx hb dL_law_928 (by decide) ?_
  refine lv_iadd hx hb dL_law_929 ?_
  refine va_sld hx hb hX hbl hbA hH.2.2.1 (hj 1 (by decide)) dL_law_930 ?_
  refine lv_aload_n hx hb dL_law_931 rfl (lv_at hl 0 rfl) ?_
  refine lv_iload_n hx hb dL_law_932 rfl (lv_at hl 3 rfl) ?_
  refine lv_iconst (v := (2 : Int32)) hx hb dL_law_933 (by decide) ?_
  refine lv_iadd hx hb dL_law_934 ?_
  refine va_sld hx hb hX hbl hbA hH.2.2.1 (hj 2 (by decide)) dL_law_935 ?_
  refine lv_aload_n hx hb dL_law_936 rfl (lv_at hl 0 rfl) ?_
  refine lv_iload_n hx hb dL_law_937 rfl (lv_at hl 3 rfl) ?_
  refine lv_iconst (v := (3 : Int32)) hx hb dL_law_938 (by decide) ?_
  refine lv_iadd hx hb dL_law_939 ?_
  refine va_sld hx hb hX hbl hbA hH.2.2.1 (hj 3 (by decide)) dL_law_940 ?_
  refine lv_aload_n hx hb dL_law_941 rfl (lv_at hl 0 rfl) ?_
  refine lv_iload_n hx hb dL_law_942 rfl (lv_at hl 3 rfl) ?_
  refine lv_iconst (v := (4 : Int32)) hx hb dL_law_943 (by decide) ?_
  refine lv_iadd hx hb dL_law_944 ?_
  refine va_sld hx hb hX hbl hbA hH.2.2.1 (hj 4 (by decide)) dL_law_945 ?_
  refine lv_aload_n hx hb dL_law_946 rfl (lv_at hl 0 rfl) ?_
  refine lv_iload_n hx hb dL_law_947 rfl (lv_at hl 3 rfl) ?_
  refine lv_iconst (v := (5 : Int32)) hx hb dL_law_948 (by decide) ?_
  refine lv_iadd hx hb dL_law_949 ?_
  refine va_sld hx hb hX hbl hbA hH.2.2.1 (hj 5 (by decide)) dL_law_950 ?_
  refine x_fi (x_runV (As := [.int (xs (Int32.toNatClampNeg (nI (6 * j) + (1 : Int32)))), .int (xs (Int32.toNatClampNeg (nI (6 * j) + (2 : Int32)))), .int (xs (Int32.toNatClampNeg (nI (6 * j) + (3 : Int32)))), .int (xs (Int32.toNatClampNeg (nI (6 * j) + (4 : Int32)))), .int (xs (Int32.toNatClampNeg (nI (6 * j) + (5 : Int32))))]) (rest := []) E (c_X3_between (post := fun r u => r = (sp_between S (xs (Int32.toNatClampNeg (nI (6 * j) + (1 : Int32)))) (xs (Int32.toNatClampNeg (nI (6 * j) + (2 : Int32)))) (xs (Int32.toNatClampNeg (nI (6 * j) + (3 : Int32)))) (xs (Int32.toNatClampNeg (nI (6 * j) + (4 : Int32)))) (xs (Int32.toNatClampNeg (nI (6 * j) + (5 : Int32))))).1 ∧ RelC u (sp_between S (xs (Int32.toNatClampNeg (nI (6 * j) + (1 : Int32)))) (xs (Int32.toNatClampNeg (nI (6 * j) + (2 : Int32)))) (xs (Int32.toNatClampNeg (nI (6 * j) + (3 : Int32)))) (xs (Int32.toNatClampNeg (nI (6 * j) + (4 : Int32)))) (xs (Int32.toNatClampNeg (nI (6 * j) + (5 : Int32))))).2) (pc_between hC (fun _ h9 => ⟨rfl, h9⟩))) yk_X3_between yi_X3_between km_L_93 ⟨Nat.le_of_ble_eq_true rfl, Nat.le_of_ble_eq_true rfl⟩ ⟨by show _ ≤ 600000; omega, by show _ ≤ 7302250; omega⟩ (x_part hH) (va_recv E.2.2.2.2.2.1 (x_part hH).1 (ci := 3) (q0 := 0) rfl wC_g0) hl.1 rfl rfl (lv_room (Nat.le_of_ble_eq_true rfl)) dL_law_951) hH (fun r u H locs h9 hH => ?_)
  obtain ⟨er, hC1⟩ := h9
  subst er
  have hH := x_swap hH
  refine lv_aload_n hx hb dL_law_954 rfl (lv_at hl 2 rfl) ?_
  refine lv_aload_n hx hb dL_law_955 rfl (lv_at hl 0 rfl) ?_
  refine lv_iload_n hx hb dL_law_956 rfl (lv_at hl 3 rfl) ?_
  refine lv_iconst (v := (1 : Int32)) hx hb dL_law_957 (by decide) ?_
  refine lv_iadd hx hb dL_law_958 ?_
  refine va_sld hx hb hX hbl hbA hH.2.2.1 (hj 1 (by decide)) dL_law_959 ?_
  refine lv_aload_n hx hb dL_law_960 rfl (lv_at hl 0 rfl) ?_
  refine lv_iload_n hx hb dL_law_961 rfl (lv_at hl 3 rfl) ?_
  refine lv_iconst (v := (2 : Int32)) hx hb dL_law_962 (by decide) ?_
  refine lv_iadd hx hb dL_law_963 ?_
  refine va_sld hx hb hX hbl hbA hH.2.2.1 (hj 2 (by decide)) dL_law_964 ?_
  refine lv_aload_n hx hb dL_law_965 rfl (lv_at hl 0 rfl) ?_
  refine lv_iload_n hx hb dL_law_966 rfl (lv_at hl 3 rfl) ?_
  refine lv_iconst (v := (3 : Int32)) hx hb dL_law_967 (by decide) ?_
  refine lv_iadd hx hb dL_law_968 ?_
  refine va_sld hx hb hX hbl hbA hH.2.2.1 (hj 3 (by decide)) dL_law_969 ?_
  refine lv_aload_n hx hb dL_law_970 rfl (lv_at hl 0 rfl) ?_
  refine lv_iload_n hx hb dL_law_971 rfl (lv_at hl 3 rfl) ?_
  refine lv_iconst (v := (4 : Int32)) hx hb dL_law_972 (by decide) ?_
  refine lv_iadd hx hb dL_law_973 ?_
  refine va_sld hx hb hX hbl hbA hH.2.2.1 (hj 4 (by decide)) dL_law_974 ?_
  refine lv_aload_n hx hb dL_law_975 rfl (lv_at hl 0 rfl) ?_
  refine lv_iload_n hx hb dL_law_976 rfl (lv_at hl 3 rfl) ?_
  refine lv_iconst (v := (5 : Int32)) hx hb dL_law_977 (by decide) ?_
  refine lv_iadd hx hb dL_law_978 ?_
  refine va_sld hx hb hX hbl hbA hH.2.2.1 (hj 5 (by decide)) dL_law_979 ?_
  refine x_fi (x_runV (As := [.int (xs (Int32.toNatClampNeg (nI (6 * j) + (1 : Int32)))), .int (xs (Int32.toNatClampNeg (nI (6 * j) + (2 : Int32)))), .int (xs (Int32.toNatClampNeg (nI (6 * j) + (3 : Int32)))), .int (xs (Int32.toNatClampNeg (nI (6 * j) + (4 : Int32)))), .int (xs (Int32.toNatClampNeg (nI (6 * j) + (5 : Int32))))]) (rest := [.int (sp_between S (xs (Int32.toNatClampNeg (nI (6 * j) + (1 : Int32)))) (xs (Int32.toNatClampNeg (nI (6 * j) + (2 : Int32)))) (xs (Int32.toNatClampNeg (nI (6 * j) + (3 : Int32)))) (xs (Int32.toNatClampNeg (nI (6 * j) + (4 : Int32)))) (xs (Int32.toNatClampNeg (nI (6 * j) + (5 : Int32))))).1]) E (c_X4_between (post := fun r u => r = (sp_between S (xs (Int32.toNatClampNeg (nI (6 * j) + (1 : Int32)))) (xs (Int32.toNatClampNeg (nI (6 * j) + (2 : Int32)))) (xs (Int32.toNatClampNeg (nI (6 * j) + (3 : Int32)))) (xs (Int32.toNatClampNeg (nI (6 * j) + (4 : Int32)))) (xs (Int32.toNatClampNeg (nI (6 * j) + (5 : Int32))))).1 ∧ RelM u (sp_between S (xs (Int32.toNatClampNeg (nI (6 * j) + (1 : Int32)))) (xs (Int32.toNatClampNeg (nI (6 * j) + (2 : Int32)))) (xs (Int32.toNatClampNeg (nI (6 * j) + (3 : Int32)))) (xs (Int32.toNatClampNeg (nI (6 * j) + (4 : Int32)))) (xs (Int32.toNatClampNeg (nI (6 * j) + (5 : Int32))))).2) (pm_between hM (fun _ h9 => ⟨rfl, h9⟩))) yk_X4_between yi_X4_between km_L_96 ⟨Nat.le_of_ble_eq_true rfl, Nat.le_of_ble_eq_true rfl⟩ ⟨by show _ ≤ 600000; omega, by show _ ≤ 7302250; omega⟩ (x_part hH) (va_recv E.2.2.2.2.2.1 (x_part hH).1 (ci := 4) (q0 := 0) rfl wM_g0) hl.1 rfl rfl (lv_room (Nat.le_of_ble_eq_true rfl)) dL_law_980) hH (fun r u H locs h9 hH => ?_)
  obtain ⟨er, hM1⟩ := h9
  subst er
  have hH := x_swap hH
  refine lv_icmp_eq (tgt := 1472) hx hb dL_law_983 (by decide) (fun _ => ?_) (fun h9 => absurd rfl h9)
  refine W.widen (k := cells + 3) (n := slots + 809) (by omega) (by omega) ?_
  exact K _ _ _ _ _ _ hC1 hM1 hH
set_option maxHeartbeats 4000000 in
set_option maxRecDepth 100000 in
theorem lw_c19 (E : Cx p s m #[Value.ref b] meth c cL_law 4 RL rt D (tyW cI cS cO)) (X : LX s A b L xs) (hj : ∀ t : Nat, t < 6 → vp_in (nI (6 * j) + nI t) L) (hcs : cells + 3 ≤ 600000 ∧ slots + 809 ≤ 7302250) (hC : RelC C S) (hM : RelM M S) (hH : HX D (wC cI cO a ad C ++ wM cI cS am M) A s.heap H locs) (hl : lv_has ls 4 [(0, .ref b), (1, .ref (a 0)), (2, .ref (am 0)), (3, .int (nI (6 * j)))]) (K : LKo p l e s m b below meth c D cI cS cO a am A Q ls cells slots) : W p l e room_1 s m #[Value.ref b] below meth c H locs cells slots Q (F0 m 988 ls []) := by
  have hx := E.1
  have hb := E.2.1
  obtain ⟨hX, hbl, hbA⟩ := X
  refine lv_aload_n hx hb dL_law_988 rfl (lv_at hl 1 rfl) ?_
  refine lv_aload_n hx hb dL_law_989 rfl (lv_at hl 0 rfl) ?_
  refine lv_iload_n hx hb dL_law_990 rfl (lv_at hl 3 rfl) ?_
  refine lv_iconst (v := (1 : Int32)) hx hb dL_law_991 (by decide) ?_
  refine lv_iadd hx hb dL_law_992 ?_
  refine va_sld hx hb hX hbl hbA hH.2.2.1 (hj 1 (by decide)) dL_law_993 ?_
  refine lv_aload_n hx hb dL_law_994 rfl (lv_at hl 0 rfl) ?_
  refine lv_iload_n hx hb dL_law_995 rfl (lv_at hl 3 rfl) ?_
  refine lv_iconst (v := (2 : Int32)) hx hb dL_law_996 (by decide) ?_
  refine lv_iadd hx hb dL_law_997 ?_
  refine va_sld hx hb hX hbl hbA hH.2.2.1 (hj 2 (by decide)) dL_law_998 ?_
  refine lv_aload_n hx hb dL_law_999 rfl (lv_at hl 0 rfl) ?_
  refine lv_iload_n hx hb dL_law_1000 rfl (lv_at hl 3 rfl) ?_
  refine lv_iconst (v := (3 : Int32)) hx hb dL_law_1001 (by decide) ?_
  refine lv_iadd hx hb dL_law_1002 ?_
  refine va_sld hx hb hX hbl hbA hH.2.2.1 (hj 3 (by decide)) dL_law_1003 ?_
  refine lv_aload_n hx hb dL_law_1004 rfl (lv_at hl 0 rfl) ?_
  refine lv_iload_n hx hb dL_law_1005 rfl (lv_at hl 3 rfl) ?_
  refine lv_iconst (v := (4 : Int32)) hx hb dL_law_1006 (by decide) ?_
  refine lv_iadd hx hb dL_law_1007 ?_
  refine va_sld hx hb hX hbl hbA hH.2.2.1 (hj 4 (by decide)) dL_law_1008 ?_
  refine x_fi (x_runV (As := [.int (xs (Int32.toNatClampNeg (nI (6 * j) + (1 : Int32)))), .int (xs (Int32.toNatClampNeg (nI (6 * j) + (2 : Int32)))), .int (xs (Int32.toNatClampNeg (nI (6 * j) + (3 : Int32)))), .int (xs (Int32.toNatClampNeg (nI (6 * j) + (4 : Int32))))]) (rest := []) E (c_X3_next (post := fun r u => r = (sp_next S (xs (Int32.toNatClampNeg (nI (6 * j) + (1 : Int32)))) (xs (Int32.toNatClampNeg (nI (6 * j) + (2 : Int32)))) (xs (Int32.toNatClampNeg (nI (6 * j) + (3 : Int32)))) (xs (Int32.toNatClampNeg (nI (6 * j) + (4 : Int32))))).1 ∧ RelC u (sp_next S (xs (Int32.toNatClampNeg (nI (6 * j) + (1 : Int32)))) (xs (Int32.toNatClampNeg (nI (6 * j) + (2 : Int32)))) (xs (Int32.toNatClampNeg (nI (6 * j) + (3 : Int32)))) (xs (Int32.toNatClampNeg (nI (6 * j) + (4 : Int32))))).2) (pc_next hC (fun _ h9 => ⟨rfl, h9⟩))) yk_X3_next yi_X3_next km_L_97 ⟨Nat.le_of_ble_eq_true rfl, Nat.le_of_ble_eq_true rfl⟩ ⟨by show _ ≤ 600000; omega, by show _ ≤ 7302250; omega⟩ (x_part hH) (va_recv E.2.2.2.2.2.1 (x_part hH).1 (ci := 3) (q0 := 0) rfl wC_g0) hl.1 rfl rfl (lv_room (Nat.le_of_ble_eq_true rfl)) dL_law_1009) hH (fun r u H locs h9 hH => ?_)
  obtain ⟨er, hC1⟩ := h9
  subst er
  have hH := x_swap hH
  refine lv_aload_n hx hb dL_law_1012 rfl (lv_at hl 2 rfl) ?_
  refine lv_aload_n hx hb dL_law_1013 rfl (lv_at hl 0 rfl) ?_
  refine lv_iload_n hx hb dL_law_1014 rfl (lv_at hl 3 rfl) ?_
  refine lv_iconst (v := (1 : Int32)) hx hb dL_law_1015 (by decide) ?_
  refine lv_iadd hx hb dL_law_1016 ?_
  refine va_sld hx hb hX hbl hbA hH.2.2.1 (hj 1 (by decide)) dL_law_1017 ?_
  refine lv_aload_n hx hb dL_law_1018 rfl (lv_at hl 0 rfl) ?_
  refine lv_iload_n hx hb dL_law_1019 rfl (lv_at hl 3 rfl) ?_
  refine lv_iconst (v := (2 : Int32)) hx hb dL_law_1020 (by decide) ?_
  refine lv_iadd hx hb dL_law_1021 ?_
  refine va_sld hx hb hX hbl hbA hH.2.2.1 (hj 2 (by decide)) dL_law_1022 ?_
  refine lv_aload_n hx hb dL_law_1023 rfl (lv_at hl 0 rfl) ?_
  refine lv_iload_n hx hb dL_law_1024 rfl (lv_at hl 3 rfl) ?_
  refine lv_iconst (v := (3 : Int32)) hx hb dL_law_1025 (by decide) ?_
  refine lv_iadd hx hb dL_law_1026 ?_
  refine va_sld hx hb hX hbl hbA hH.2.2.1 (hj 3 (by decide)) dL_law_1027 ?_
  refine lv_aload_n hx hb dL_law_1028 rfl (lv_at hl 0 rfl) ?_
  refine lv_iload_n hx hb dL_law_1029 rfl (lv_at hl 3 rfl) ?_
  refine lv_iconst (v := (4 : Int32)) hx hb dL_law_1030 (by decide) ?_
  refine lv_iadd hx hb dL_law_1031 ?_
  refine va_sld hx hb hX hbl hbA hH.2.2.1 (hj 4 (by decide)) dL_law_1032 ?_
  refine x_fi (x_runV (As := [.int (xs (Int32.toNatClampNeg (nI (6 * j) + (1 : Int32)))), .int (xs (Int32.toNatClampNeg (nI (6 * j) + (2 : Int32)))), .int (xs (Int32.toNatClampNeg (nI (6 * j) + (3 : Int32)))), .int (xs (Int32.toNatClampNeg (nI (6 * j) + (4 : Int32))))]) (rest := [.int (sp_next S (xs (Int32.toNatClampNeg (nI (6 * j) + (1 : Int32)))) (xs (Int32.toNatClampNeg (nI (6 * j) + (2 : Int32)))) (xs (Int32.toNatClampNeg (nI (6 * j) + (3 : Int32)))) (xs (Int32.toNatClampNeg (nI (6 * j) + (4 : Int32))))).1]) E (c_X4_next (post := fun r u => r = (sp_next S (xs (Int32.toNatClampNeg (nI (6 * j) + (1 : Int32)))) (xs (Int32.toNatClampNeg (nI (6 * j) + (2 : Int32)))) (xs (Int32.toNatClampNeg (nI (6 * j) + (3 : Int32)))) (xs (Int32.toNatClampNeg (nI (6 * j) + (4 : Int32))))).1 ∧ RelM u (sp_next S (xs (Int32.toNatClampNeg (nI (6 * j) + (1 : Int32)))) (xs (Int32.toNatClampNeg (nI (6 * j) + (2 : Int32)))) (xs (Int32.toNatClampNeg (nI (6 * j) + (3 : Int32)))) (xs (Int32.toNatClampNeg (nI (6 * j) + (4 : Int32))))).2) (pm_next hM (fun _ h9 => ⟨rfl, h9⟩))) yk_X4_next yi_X4_next km_L_100 ⟨Nat.le_of_ble_eq_true rfl, Nat.le_of_ble_eq_true rfl⟩ ⟨by show _ ≤ 600000; omega, by show _ ≤ 7302250; omega⟩ (x_part hH) (va_recv E.2.2.2.2.2.1 (x_part hH).1 (ci := 4) (q0 := 0) rfl wM_g0) hl.1 rfl rfl (lv_room (Nat.le_of_ble_eq_true rfl)) dL_law_1033) hH (fun r u H locs h9 hH => ?_)
  obtain ⟨er, hM1⟩ := h9
  subst er
  have hH := x_swap hH
  refine lv_icmp_eq (tgt := 1472) hx hb dL_law_1036 (by decide) (fun _ => ?_) (fun h9 => absurd rfl h9)
  refine W.widen (k := cells + 3) (n := slots + 809) (by omega) (by omega) ?_
  exact K _ _ _ _ _ _ hC1 hM1 hH
end LAWC
