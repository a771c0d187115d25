set_option maxHeartbeats 8000000 in
set_option maxRecDepth 200000 in
theorem whole_start {p : Program} {e : Env} {s : State} {m : MethodId} {below : List Frame} {meth : Method} {c : Code} (l : Launch) {b L : Nat} {xs : Nat → Int32} (hL : L ≤ 3072) (C0 : lw_At p s m meth c b L xs) : W p l e room_1 s m #[Value.ref b] below meth c s.heap [] 0 0 (lw_Z below #[Value.ref b] s) (entryFrame m ([Value.ref b] : List Value).toArray 4) := by
  obtain ⟨hx, hb, hr, hml, hown, hts, hX, hbl, hlocks, hgv⟩ := C0
  have hg : ∀ w ∈ gT, w.before #[Value.ref b] s = true := fun w h => hts w (List.mem_filter.mp h).1
  obtain ⟨c0, i0, k0⟩ := u_known (C := RX0) (T := TX0) (N := 4) (n := 4) hg in_X0 (hg _ kin_X0)
  obtain ⟨c1, i1, k1⟩ := u_known (C := RX1) (T := TX1) (N := 2) (n := 2) hg in_X1 (hg _ kin_X1)
  obtain ⟨c2, i2, k2⟩ := u_known (C := RX2) (T := TX2) (N := 9) (n := 9) hg in_X2 (hg _ kin_X2)
  obtain ⟨c3, i3, k3⟩ := u_known (C := RX3) (T := TX3) (N := 11) (n := 11) hg in_X3 (hg _ kin_X3)
  obtain ⟨c4, i4, k4⟩ := u_known (C := RX4) (T := TX4) (N := 20) (n := 20) hg in_X4 (hg _ kin_X4)
  obtain ⟨D, hKc⟩ : ∃ D : va_G, ∀ (k : Nat) (q : vw_C), vwCl[k]? = some q → u_Kn s q.1 q.2.1 q.2.2 (D.1 k) (D.2 k) := by
    refine ⟨(fun k => if k = 0 then c0 else if k = 1 then c1 else if k = 2 then c2 else if k = 3 then c3 else c4, fun k => if k = 0 then i0 else if k = 1 then i1 else if k = 2 then i2 else if k = 3 then i3 else i4), ?_⟩
    intro k q hq
    match k, hq with
    | 0, hq => cases hq; exact k0
    | 1, hq => cases hq; exact k1
    | 2, hq => cases hq; exact k2
    | 3, hq => cases hq; exact k3
    | 4, hq => cases hq; exact k4
    | k + 5, hq => simp [vwCl] at hq
  obtain ⟨cI, kI, mI, fI1, fI2, fI3⟩ := Cond.arrayClass_spec (hg _ ka_int)
  obtain ⟨cS, kS, mS, fS1, fS2, fS3⟩ := Cond.arrayClass_spec (hg _ ka_short)
  obtain ⟨mO, cO, kO, fO1, fO2, fO3, fO4, fO5⟩ := Cond.arrayOver_spec (hts _ (List.mem_filter.mp ka_over).1)
  have hK : va_K D vwCl (tyW cI cS cO) s := by
    refine ⟨hKc, fun k q hq => ?_⟩
    match k, hq with
    | 0, hq => cases hq; exact ⟨fun n z => ⟨fun k h => (by cases h), kI, fI2, mI, fI3⟩, fI1⟩
    | 1, hq => cases hq; exact ⟨fun n z => ⟨fun k h => (by cases h), kS, fS2, mS, fS3⟩, fS1⟩
    | 2, hq => cases hq; exact ⟨fun n z => ⟨fun k h => (by cases h), kO, fO3, mO, fO4⟩, kO, mO, fO3, fO4, fO1, fO5⟩
    | k + 3, hq => simp [tyW] at hq
  have hnw : nwC s := by
    intro w hw
    have h1 := (List.mem_filter.mp hw).2
    have h2 := hts w (List.mem_filter.mp hw).1
    cases w with
    | fieldLinkNest a i b n d hh => exact va_Nw.of rfl h2
    | methodLinkNest a i x hh => exact va_Nw.of rfl h2
    | arrayOver t => cases t with
      | object C => exact va_AO.of h2
      | _ => exact absurd h1 (by simp [isNest])
    | _ => exact absurd h1 (by simp [isNest])
  have E : Cx p s m #[Value.ref b] meth c cL_law 4 RL ret D (tyW cI cS cO) := ⟨hx, hb, hml, hown, hg, hK, hnw, hr, hlocks⟩
  have hH : HX D [] (fun q : Nat => s.heap.size ≤ q) s.heap s.heap [] := ⟨fun k q h => by simp at h, ⟨fun i j p q h => by simp at h, fun k q h => by simp at h⟩, va_S.rf, fun q h => h⟩
  have hbA : ¬ (fun q : Nat => s.heap.size ≤ q) b := Nat.not_le.mpr hbl
  have hl := lv_entry ([.ref b]) (n := 4) (Nat.le_of_ble_eq_true rfl)
  rw [lg_entry_eq]
  generalize (lg_sl ([.ref b]) ++ List.replicate (4 - (lg_sl ([.ref b])).length) Slot.unset).toArray = ls at hl ⊢
  have hl : lv_has ls 4 [(0, .ref b)] := hl
  refine x_new (ci := 3) (CN := RX3) (T := TX3) (N := 11) (fs := [.null, .int 0, .int 0, .null, .null, .null, .null, .null, .null, .int 0, .null]) E in_X3 tyX3 tyX3_ok kcl_L_7 kin_X3 kit_X3 hH rfl (by decide +kernel) (Nat.le_of_ble_eq_true rfl) (Nat.le_of_ble_eq_true rfl) dL_law_0 (fun q H hH => ?_)
  have hH : HX D [(q, .inr (3, [.null, .int 0, .int 0, .null, .null, .null, .null, .null, .null, .int 0, .null]))] (fun q : Nat => s.heap.size ≤ q) s.heap H _ := hH
  refine lv_dup hx hb dL_law_3 rfl ?_
  refine x_cv (x_runI (As := []) (rest := [.ref q]) E (c_X3_init (q := q)) yk_X3_init yi_X3_init km_L_9 ⟨Nat.le_of_ble_eq_true rfl, Nat.le_of_ble_eq_true rfl⟩ ⟨Nat.le_of_ble_eq_true rfl, Nat.le_of_ble_eq_true rfl⟩ hH hl.1 rfl rfl (lv_room (Nat.le_of_ble_eq_true rfl)) dL_law_4) hH (fun u H2 locs2 hu hH2 => ?_)
  clear hH
  subst hu
  refine lv_astore_n (lv' := [(1, .ref (u.1 0)), (0, .ref b)]) hx hb dL_law_7 rfl hl (by decide) rfl (fun ls hl => ?_)
  refine x_new (ci := 4) (CN := RX4) (T := TX4) (N := 20) (fs := [.int 0, .null, .null, .null, .null, .null, .int 0, .int 0, .null, .null, .null, .null, .null, .null, .int 0, .null, .null, .null, .null, .null]) E in_X4 tyX4 tyX4_ok kcl_L_10 kin_X4 kit_X4 hH2 rfl (by decide +kernel) (Nat.le_of_ble_eq_true rfl) (Nat.le_of_ble_eq_true rfl) dL_law_8 (fun q H3 hH3 => ?_)
  have hH4 := x_swap hH3
  refine lv_dup hx hb dL_law_11 rfl ?_
  refine x_fv (x_runI (As := []) (rest := [.ref q]) E (c_X4_init (q := q)) yk_X4_init yi_X4_init km_L_12 ⟨Nat.le_of_ble_eq_true rfl, Nat.le_of_ble_eq_true rfl⟩ ⟨Nat.le_of_ble_eq_true rfl, Nat.le_of_ble_eq_true rfl⟩ (x_part hH4) hl.1 rfl rfl (lv_room (Nat.le_of_ble_eq_true rfl)) dL_law_12) hH4 (fun v H5 locs5 hv hH5 => ?_)
  clear hH3 hH4
  subst hv
  have hH6 := x_swap hH5
  refine lv_astore_n (lv' := [(2, .ref (v 0)), (1, .ref (u.1 0)), (0, .ref b)]) hx hb dL_law_15 rfl hl (by decide) rfl (fun ls hl => ?_)
  refine lv_iconst (v := 0) hx hb dL_law_16 (by decide) ?_
  refine lv_istore_n (lv' := [(3, .int 0), (2, .ref (v 0)), (1, .ref (u.1 0)), (0, .ref b)]) hx hb dL_law_17 rfl hl (by decide) rfl (fun ls hl => ?_)
  refine W.widen (k := 37 + 3 * 0) (n := 419217 + 809 * 0) (Nat.le_of_ble_eq_true rfl) (Nat.le_of_ble_eq_true rfl) ?_
  exact lw_loop hL E ⟨hX, hbl, hbA⟩ (L + 1) 0 C0r M0r S0r u.2 H5 locs5 ls (by omega) (by omega) relC0 relM0 hH6 (lv_sub hl [3, 2, 1, 0] rfl)
