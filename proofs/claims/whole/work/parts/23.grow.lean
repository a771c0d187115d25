def mx (x : Int32) : Int32 := if x < (0 : Int32) then (0 : Int32) else x
theorem mx_nn (x : Int32) : ¬ mx x < 0 := by
  unfold mx
  by_cases h : x < (0 : Int32)
  · rw [if_pos h]; decide
  · rw [if_neg h]; exact h
/-- every reference that the class holds is to a version that is there -/
def okC (C : CS) : Prop := (∀ i v, co C 1 i = some v → v < cn C) ∧ (∀ i v, co C 2 i = some v → v < cn C) ∧ (∀ u v, u < cn C → cp C u = some v → v < cn C)
def newf (C : CS) (v : Nat) (x2 x3 : Int32) : Nat → Int32 := fun k => if k = 0 then cz C 0 else if k = 2 then x2 else if k = 3 then x2 + mx x3 else if k = 6 then (if 0 < cf C v 8 then 1 else 0) else if k = 7 then cf C v 7 + 1 else 0
def addV (C : CS) (v : Nat) (x2 x3 : Int32) : CS := (cz C, cr C, co C, cn C + 1, va_up (cf C) (cn C) (newf C v x2 x3), va_up (cp C) (cn C) (some v), va_up (ck C) (cn C) (mx x3).toNatClampNeg, va_up (cv C) (cn C) (fun _ => 0), va_up (cw C) (cn C) (fun _ => 0))
def ad3 (ad : Nat → Nat) (n q q0 q1 : Nat) : Nat → Nat := fun i => if i = 3 * n then q else if i = 3 * n + 1 then q0 else if i = 3 * n + 2 then q1 else ad i
theorem ad3_lo {ad : Nat → Nat} {n q q0 q1 i : Nat} (h : i < 3 * n) : ad3 ad n q q0 q1 i = ad i := by
  unfold ad3
  rw [if_neg (by omega), if_neg (by omega), if_neg (by omega)]
theorem poolC_cong2 {cI : ClassId} {ad ad2 : Nat → Nat} {f f2 : Nat → Nat → Int32} {q q2 : Nat → Option Nat} {k k2 : Nat → Nat} {g g2 h h2 : Nat → Nat → Int32} : ∀ n, (∀ i, i < 3 * n → ad i = ad2 i) → (∀ v, v < n → f v = f2 v ∧ rv ad (q v) = rv ad2 (q2 v) ∧ k v = k2 v ∧ g v = g2 v ∧ h v = h2 v) → poolC cI ad f q k g h n = poolC cI ad2 f2 q2 k2 g2 h2 n := by
  intro n ha hv
  induction n with
  | zero => rfl
  | succ n ih =>
    obtain ⟨e1, e2, e3, e4, e5⟩ := hv n (Nat.lt_succ_self n)
    rw [poolC, poolC, ih (fun i h => ha i (by omega)) (fun v h => hv v (by omega)), vO, vO, e1, e2, e3, e4, e5, ha (3 * n) (by omega), ha (3 * n + 1) (by omega), ha (3 * n + 2) (by omega)]
theorem rv_ad {ad ad2 : Nat → Nat} {w : Option Nat} (h : ∀ v, w = some v → ad (3 * v) = ad2 (3 * v)) : rv ad w = rv ad2 w := by
  cases w with
  | none => rfl
  | some v => show Value.ref (ad (3 * v)) = Value.ref (ad2 (3 * v)); rw [h v rfl]
theorem hM_ad {ad ad2 : Nat → Nat} {h : Nat → Option Nat} (e : ∀ i v, h i = some v → ad (3 * v) = ad2 (3 * v)) : hM ad h = hM ad2 h := by
  funext i
  unfold hM
  cases hi : h i with
  | none => rfl
  | some v => simp [e i v hi]
theorem wC_add {cI cO : ClassId} {a ad : Nat → Nat} {C : CS} {v q q0 q1 : Nat} {x2 x3 : Int32} (hok : okC C) (hv : v < cn C) : wC cI cO a ad C ++ [(q, .inr (2, [.int (cz C 0), .ref (ad (3 * v)), .int x2, .int (x2 + (if x3 < (0 : Int32) then (0 : Int32) else x3)), .ref q0, .ref q1, .int (if 0 < cf C v 8 then 1 else 0), .int (cf C v 7 + 1), .int 0])), (q0, .inl (cI, (mx x3).toNatClampNeg, .inl (fun _ => 0))), (q1, .inl (cI, (mx x3).toNatClampNeg, .inl (fun _ => 0)))] = wC cI cO a (ad3 ad (cn C) q q0 q1) (addV C v x2 x3) := by
  have hlo : ∀ u, u < cn C → ad (3 * u) = ad3 ad (cn C) q q0 q1 (3 * u) := fun u h => (ad3_lo (by omega)).symm
  have e1 : fixC cI cO a (ad3 ad (cn C) q q0 q1) (addV C v x2 x3) = fixC cI cO a ad C := by
    show fixC cI cO a (ad3 ad (cn C) q q0 q1) C = fixC cI cO a ad C
    unfold fixC
    rw [hM_ad (ad := ad) (ad2 := ad3 ad (cn C) q q0 q1) (h := co C 1) (fun i u h => hlo u (hok.1 i u h)), hM_ad (ad := ad) (ad2 := ad3 ad (cn C) q q0 q1) (h := co C 2) (fun i u h => hlo u (hok.2.1 i u h))]
  have e2 : poolC cI ad (cf C) (cp C) (ck C) (cv C) (cw C) (cn C) = poolC cI (ad3 ad (cn C) q q0 q1) (cf (addV C v x2 x3)) (cp (addV C v x2 x3)) (ck (addV C v x2 x3)) (cv (addV C v x2 x3)) (cw (addV C v x2 x3)) (cn C) := by
    refine poolC_cong2 _ (fun i h => (ad3_lo h).symm) (fun u hu => ?_)
    have hne : u ≠ cn C := by omega
    refine ⟨(va_up_ne _ _ hne).symm, ?_, (va_up_ne _ _ hne).symm, (va_up_ne _ _ hne).symm, (va_up_ne _ _ hne).symm⟩
    show rv ad (cp C u) = rv _ (va_up (cp C) (cn C) (some v) u)
    rw [va_up_ne _ _ hne]
    exact rv_ad (fun w h => hlo w (hok.2.2 u w hu h))
  show fixC cI cO a ad C ++ poolC cI ad (cf C) (cp C) (ck C) (cv C) (cw C) (cn C) ++ _ = fixC cI cO a (ad3 ad (cn C) q q0 q1) (addV C v x2 x3) ++ poolC cI (ad3 ad (cn C) q q0 q1) (cf (addV C v x2 x3)) (cp (addV C v x2 x3)) (ck (addV C v x2 x3)) (cv (addV C v x2 x3)) (cw (addV C v x2 x3)) (cn C + 1)
  rw [e1, e2, poolC, List.append_assoc]
  have h1 : ad3 ad (cn C) q q0 q1 (3 * cn C) = q := by simp [ad3]
  have h2 : ad3 ad (cn C) q q0 q1 (3 * cn C + 1) = q0 := by simp [ad3]
  have h3 : ad3 ad (cn C) q q0 q1 (3 * cn C + 2) = q1 := by simp [ad3]
  have h4 : cf (addV C v x2 x3) (cn C) = newf C v x2 x3 := va_up_self _ _ _
  have h5 : cp (addV C v x2 x3) (cn C) = some v := va_up_self _ _ _
  have h6 : ck (addV C v x2 x3) (cn C) = (mx x3).toNatClampNeg := va_up_self _ _ _
  have h7 : cv (addV C v x2 x3) (cn C) = (fun _ => 0) := va_up_self _ _ _
  have h8 : cw (addV C v x2 x3) (cn C) = (fun _ => 0) := va_up_self _ _ _
  rw [vO, h1, h2, h3, h4, h5, h6, h7, h8]
  have h9 : rv (ad3 ad (cn C) q q0 q1) (some v) = Value.ref (ad (3 * v)) := by show Value.ref (ad3 ad (cn C) q q0 q1 (3 * v)) = _; rw [← hlo v hv]
  rw [h9]
  rfl
def w_X3_grow_14 (post : CS → Prop) (C : CS) (v1 n4 : Nat) (x3 : Int32) : Prop := v1 < cn C ∧ n4 < cn C ∧ vp_in (cz C 0) 500 ∧ post (czu (czu (cou (cfu C v1 8 ((cf C v1 8) + (1 : Int32))) 1 (va_up (co C 1) (Int32.toNatClampNeg (cz C 0)) (some n4))) 0 ((cz C 0) + (1 : Int32))) 1 ((cz C 1) + x3))
def w_X3_grow (post : CS → Prop) (C : CS) (v1 : Nat) (x2 x3 : Int32) : Prop := v1 < cn C ∧ okC C ∧ (mx x3).toNatClampNeg ≤ 400 ∧ w_X3_grow_14 post (addV C v1 x2 x3) v1 (cn C) x3
section WALKS_G
variable {p : Program} {l : Launch} {e : Env} {s : State} {m : MethodId} {args : Array Value} {below : List Frame} {meth : Method} {c : Code} {D : va_G} {cI cS cO : ClassId} {a ad : Nat → Nat} {A : Nat → Prop}
set_option maxHeartbeats 4000000 in
set_option maxRecDepth 100000 in
theorem k_X3_grow_14 {post : CS → Prop} (E : Cx p s m args meth c cX3_grow 5 RX3 (some (.object "RankShelf$Version")) D (tyW cI cS cO)) {ad : Nat → Nat} {C : CS} {v1 n4 : Nat} {x3 : Int32} {H : Heap} {locs : List Loc} {ls : Array Slot} (hH : HX D (wC cI cO a ad C) A s.heap H locs) (hl : lv_has ls 5 [(0, .ref (a 0)), (1, .ref (ad (3 * v1))), (3, .int x3)]) (h : w_X3_grow_14 post C v1 n4 x3) : W p l e (rmA 3 3 809) s m args below meth c H locs 3 809 (MQ below ((QR D (fun u : CS × (Nat → Nat) => wC cI cO a u.2 u.1) (fun u => u.2 (3 * n4)) (fun u => post u.1)) A) args s 3 809 A) (F0 m 14 ls [.ref (ad (3 * n4))]) := by
  have hx := E.1
  have hb := E.2.1
  unfold w_X3_grow_14 at h
  refine lv_astore (lv' := [(4, .ref (ad (3 * n4))), (0, .ref (a 0)), (1, .ref (ad (3 * v1))), (3, .int x3)]) hx hb dX3_grow_14 hl (by decide) rfl (fun ls hl => ?_)
  refine lv_aload_n hx hb dX3_grow_16 rfl (lv_at hl 2 rfl) ?_
  refine lv_dup hx hb dX3_grow_17 rfl ?_
  obtain ⟨hv1, h⟩ := h
  refine x_getN (ci := 2) (CN := RX2) (T := TX2) (N := 9) E in_X2 hH (17 + 3 * v1) (wC_v0 hv1) rfl 8 (by decide) kfn_X3_108 rfl dX3_grow_18 ?_
  refine lv_iconst (v := (1 : Int32)) hx hb dX3_grow_21 (by decide) ?_
  refine lv_iadd hx hb dX3_grow_22 ?_
  refine x_putiN (ci := 2) (CN := RX2) (T := TX2) (N := 9) E in_X2 tyX2 tyX2_ok nmX2 hH (17 + 3 * v1) (wC_v0 hv1) rfl 8 (by decide) kfn_X3_108 rfl (by decide +kernel) (Nat.le_of_ble_eq_true rfl) (wC_sf hv1) dX3_grow_23 (fun H locs hH => ?_)
  refine lv_aload_n hx hb dX3_grow_26 rfl (lv_at hl 1 rfl) ?_
  refine x_get (ci := 3) (CN := RX3) (T := TX3) (N := 11) E in_X3 hH 0 wC_g0 rfl 0 (by decide) kf_X3_11 rfl dX3_grow_27 ?_
  refine lv_aload_n hx hb dX3_grow_30 rfl (lv_at hl 1 rfl) ?_
  refine x_get (ci := 3) (CN := RX3) (T := TX3) (N := 11) E in_X3 hH 0 wC_g0 rfl 1 (by decide) kf_X3_48 rfl dX3_grow_31 ?_
  refine lv_aload hx hb dX3_grow_34 (lv_at hl 0 rfl) ?_
  obtain ⟨hv2, h⟩ := h
  obtain ⟨hi3, h⟩ := h
  refine x_aast E hH 1 2 (17 + 3 * n4) wC_g1 rfl (wC_v0 hv2) hi3 wC_o1 dX3_grow_36 (fun H locs hH => ?_)
  refine lv_aload_n hx hb dX3_grow_37 rfl (lv_at hl 1 rfl) ?_
  refine lv_dup hx hb dX3_grow_38 rfl ?_
  refine x_get (ci := 3) (CN := RX3) (T := TX3) (N := 11) E in_X3 hH 0 wC_g0 rfl 1 (by decide) kf_X3_48 rfl dX3_grow_39 ?_
  refine lv_iconst (v := (1 : Int32)) hx hb dX3_grow_42 (by decide) ?_
  refine lv_iadd hx hb dX3_grow_43 ?_
  refine x_puti (ci := 3) (CN := RX3) (T := TX3) (N := 11) E in_X3 tyX3 tyX3_ok nmX3 hH 0 wC_g0 rfl 1 (by decide) kf_X3_48 rfl (by decide +kernel) (Nat.le_of_ble_eq_true rfl) wC_z0 dX3_grow_44 (fun H locs hH => ?_)
  refine lv_aload_n hx hb dX3_grow_47 rfl (lv_at hl 1 rfl) ?_
  refine lv_dup hx hb dX3_grow_48 rfl ?_
  refine x_get (ci := 3) (CN := RX3) (T := TX3) (N := 11) E in_X3 hH 0 wC_g0 rfl 2 (by decide) kf_X3_118 rfl dX3_grow_49 ?_
  refine lv_iload_n hx hb dX3_grow_52 rfl (lv_at hl 3 rfl) ?_
  refine lv_iadd hx hb dX3_grow_53 ?_
  refine x_puti (ci := 3) (CN := RX3) (T := TX3) (N := 11) E in_X3 tyX3 tyX3_ok nmX3 hH 0 wC_g0 rfl 2 (by decide) kf_X3_118 rfl (by decide +kernel) (Nat.le_of_ble_eq_true rfl) wC_z1 dX3_grow_54 (fun H locs hH => ?_)
  refine lv_aload hx hb dX3_grow_57 (lv_at hl 0 rfl) ?_
  exact x_aret (rf := fun u : CS × (Nat → Nat) => u.2 (3 * n4)) (u := ((czu (czu (cou (cfu C v1 8 ((cf C v1 8) + (1 : Int32))) 1 (va_up (co C 1) (Int32.toNatClampNeg (cz C 0)) (some n4))) 0 ((cz C 0) + (1 : Int32))) 1 ((cz C 1) + x3)), ad)) E hH h dX3_grow_59
set_option maxHeartbeats 4000000 in
set_option maxRecDepth 100000 in
theorem c_X3_grow {l : Launch} {D : va_G} {cI cS cO : ClassId} {a ad : Nat → Nat} {C : CS} {v1 : Nat} {x2 x3 : Int32} {post : CS → Prop} (h : w_X3_grow post C v1 x2 x3) : MetX l D (tyW cI cS cO) yX3_grow cX3_grow 5 (some (.object "RankShelf$Version")) 3 3 809 [.ref (a 0), .ref (ad (3 * v1)), .int x2, .int x3] (wC cI cO a ad C) (QR D (fun u : CS × (Nat → Nat) => wC cI cO a u.2 u.1) (fun u => u.2 (3 * cn C)) (fun u => post u.1)) := by
  refine x_ent (by decide) (Nat.le_of_ble_eq_true rfl) ?_
  intro p e s m below meth c ls E _ hH hl
  have hx := E.1
  have hb := E.2.1
  generalize va_A (wC cI cO a ad C) s.heap.size = A at hH ⊢
  have hl : lv_has ls 5 [(0, .ref (a 0)), (1, .ref (ad (3 * v1))), (2, .int x2), (3, .int x3)] := hl
  obtain ⟨hv, hok, ho, h⟩ := h
  refine x_new (ci := 2) (CN := RX2) (T := TX2) (N := 9) (fs := [.int 0, .null, .int 0, .int 0, .null, .null, .int 0, .int 0, .int 0]) E in_X2 tyX2 tyX2_ok kcl_X3_9 kin_X2 kit_X2 hH rfl (by decide +kernel) (by decide) (by decide) dX3_grow_0 (fun q H hH => ?_)
  refine lv_dup hx hb dX3_grow_3 rfl ?_
  refine lv_aload_n hx hb dX3_grow_4 rfl (lv_at hl 0 rfl) ?_
  refine x_get (ci := 3) (CN := RX3) (T := TX3) (N := 11) E in_X3 hH 0 (app_l wC_g0) rfl 1 (by decide) kf_X3_48 rfl dX3_grow_5 ?_
  refine lv_aload_n hx hb dX3_grow_8 rfl (lv_at hl 1 rfl) ?_
  refine lv_iload_n hx hb dX3_grow_9 rfl (lv_at hl 2 rfl) ?_
  refine lv_iload_n hx hb dX3_grow_10 rfl (lv_at hl 3 rfl) ?_
  refine x_cv (x_runIN (As := [.int (cz C 0), .ref (ad (3 * v1)), .int x2, .int x3]) (rest := [.ref q]) E (c_X2_init_p (wr := wC cI cO a ad C) (k := 17 + 3 * v1) (ow := (mx x3).toNatClampNeg) (wC_v0 hv) rfl rfl (mx_nn x3) rfl ho) yk_X2_init yi_X2_init kmn_X3_45 ⟨Nat.le_of_ble_eq_true rfl, Nat.le_of_ble_eq_true rfl⟩ ⟨Nat.le_of_ble_eq_true rfl, Nat.le_of_ble_eq_true rfl⟩ hH hl.1 rfl rfl (lv_room (Nat.le_of_ble_eq_true rfl)) dX3_grow_11) hH (fun u H locs _ hH => ?_)
  have hG : HX D (wC cI cO a (ad3 ad (cn C) q (u 0) (u 1)) (addV C v1 x2 x3)) A s.heap H locs := by rw [← wC_add hok hv]; exact hH
  clear hH
  have e1 : ad (3 * v1) = ad3 ad (cn C) q (u 0) (u 1) (3 * v1) := (ad3_lo (by omega)).symm
  have e2 : q = ad3 ad (cn C) q (u 0) (u 1) (3 * cn C) := by simp [ad3]
  have hl2 : lv_has ls 5 [(0, .ref (a 0)), (1, .ref (ad3 ad (cn C) q (u 0) (u 1) (3 * v1))), (3, .int x3)] := by rw [← e1]; exact lv_sub hl [0, 1, 3] rfl
  generalize ad3 ad (cn C) q (u 0) (u 1) = ad1 at hG hl2 e2
  subst e2
  refine W.widen (k := 3) (n := 809) (by omega) (by omega) ?_
  exact k_X3_grow_14 E hG hl2 h
end WALKS_G
