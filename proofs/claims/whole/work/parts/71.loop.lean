theorem and31 (x : Int32) : ∃ t : Nat, t < 32 ∧ x &&& 31 = nI t := by
  have hx : x = nI x.toBitVec.toNat := by
    apply Int32.toBitVec_inj.mp
    show x.toBitVec = BitVec.ofNat 32 x.toBitVec.toNat
    rw [BitVec.ofNat_toNat]; simp
  refine ⟨x.toBitVec.toNat % 2 ^ 5, Nat.mod_lt _ (by decide), ?_⟩
  conv => lhs; rw [hx]
  exact fa_mask _ 5
theorem len6 {L i : Nat} (hL : L ≤ 3072) (hi : i ≤ 3072) : nI L - 6 < nI i ↔ L < i + 6 := by
  have e6 : (6 : Int32).toInt = 6 := rfl
  rw [fa_lt, fb_subI (by rw [nI_toInt (by omega), e6]; omega) (by rw [nI_toInt (by omega), e6]; omega), nI_toInt (by omega), nI_toInt (by omega), e6]
  omega
set_option maxHeartbeats 8000000 in
set_option maxRecDepth 100000 in
theorem lw_loop {p : Program} {l : Launch} {e : Env} {s : State} {m : MethodId} {b : Nat} {below : List Frame} {meth : Method} {c : Code} {D : va_G} {cI cS cO : ClassId} {a am : Nat → Nat} {L : Nat} {xs : Nat → Int32} (hL : L ≤ 3072) (E : Cx p s m #[Value.ref b] meth c cL_law 4 RL ret D (tyW cI cS cO)) (X : LX s (fun q : Nat => s.heap.size ≤ q) b L xs) :
    ∀ (n j : Nat) (C : CS) (M : MS) (S : Sh) (ad : Nat → Nat) (H : Heap) (locs : List Loc) (ls : Array Slot), L + 1 ≤ 6 * j + n → 6 * j ≤ L → RelC C S → RelM M S → HX D (wC cI cO a ad C ++ wM cI cS am M) (fun q : Nat => s.heap.size ≤ q) s.heap H locs → lv_has ls 4 [(0, .ref b), (1, .ref (a 0)), (2, .ref (am 0)), (3, .int (nI (6 * j)))] → W p l e room_1 s m #[Value.ref b] below meth c H locs (37 + 3 * j) (419217 + 809 * j) (lw_Z below #[Value.ref b] s) (F0 m 18 ls []) := by
  obtain ⟨hX, hbl, hbA⟩ := id X
  have hx := E.1
  have hb := E.2.1
  intro n
  induction n with
  | zero => intro j C M S ad H locs ls h1 h2; exact absurd h1 (by omega)
  | succ n ih =>
    intro j C M S ad H locs ls h1 h2 hC hM hH hl
    refine lv_iload_n hx hb dL_law_18 rfl (lv_at hl 3 rfl) ?_
    refine lv_aload_n hx hb dL_law_19 rfl (lv_at hl 0 rfl) ?_
    refine va_slen hx hb hX hbl hbA hH.2.2.1 dL_law_20 ?_
    refine lv_bipush (v := (6 : Int32)) hx hb dL_law_21 (by decide) ?_
    refine lv_isub hx hb dL_law_23 ?_
    refine lv_icmp_gt (tgt := 1478) hx hb dL_law_24 (by decide) (fun hc => ?_) (fun hc => ?_)
    · refine lv_iconst (v := 1) hx hb dL_law_1478 (by decide) ?_
      refine va_forget (fun q hq => hH.2.2.1.2.2 q hq) ?_
      refine W.widen (k := 600000) (n := 7302250) (by omega) (by omega) ?_
      exact lw_ret hx hb E.2.2.2.2.2.2.2.1 E.2.2.2.2.2.2.2.2 dL_law_1479
    · have h6 : 6 * j + 6 ≤ L := Nat.not_lt.mp (fun z => hc ((len6 hL (by omega)).mpr z))
      have hj : ∀ t : Nat, t < 6 → vp_in (nI (6 * j) + nI t) L := fun t ht => by rw [nI_add]; exact vp_in_nI (by omega) (by omega)
      refine lv_aload_n hx hb dL_law_27 rfl (lv_at hl 0 rfl) ?_
      refine lv_iload_n hx hb dL_law_28 rfl (lv_at hl 3 rfl) ?_
      refine va_sld hx hb hX hbl hbA hH.2.2.1 (vp_in_nI (by omega) (by omega)) dL_law_29 ?_
      refine lv_bipush (v := (31 : Int32)) hx hb dL_law_30 (by decide) ?_
      refine lv_iand hx hb dL_law_32 ?_
      have hcs : 37 + 3 * j + 3 ≤ 600000 ∧ 419217 + 809 * j + 809 ≤ 7302250 := ⟨by omega, by omega⟩
      have K : LKo p l e s m b below meth c D cI cS cO a am (fun q : Nat => s.heap.size ≤ q) (lw_Z below #[Value.ref b] s) ls (37 + 3 * j) (419217 + 809 * j) := by
        intro C' M' S' ad' H' locs' hC' hM' hH'
        refine lv_iinc (v := nI (6 * (j + 1))) (lv' := [(3, .int (nI (6 * (j + 1)))), (0, .ref b), (1, .ref (a 0)), (2, .ref (am 0))]) hx hb dL_law_1472 hl (k := 3) rfl (nI_add (6 * j) 6) (by decide) rfl (fun ls hl => ?_)
        refine lv_goto (tgt := 18) hx hb dL_law_1475 (by decide) ?_
        have := ih (j + 1) C' M' S' ad' H' locs' ls (by omega) (by omega) hC' hM' hH' (lv_sub hl [1, 2, 3, 0] rfl)
        rw [show 37 + 3 * (j + 1) = 37 + 3 * j + 3 by omega, show 419217 + 809 * (j + 1) = 419217 + 809 * j + 809 by omega] at this
        exact this
      obtain ⟨t, ht, et⟩ := and31 (xs (Int32.toNatClampNeg (nI (6 * j))))
      rw [et]
      clear et
      rcases (show t = 0 ∨ t = 1 ∨ t = 2 ∨ t = 3 ∨ t = 4 ∨ t = 5 ∨ t = 6 ∨ t = 7 ∨ t = 8 ∨ t = 9 ∨ t = 10 ∨ t = 11 ∨ t = 12 ∨ t = 13 ∨ t = 14 ∨ t = 15 ∨ t = 16 ∨ t = 17 ∨ t = 18 ∨ t = 19 ∨ t = 20 ∨ t = 21 ∨ t = 22 ∨ t = 23 ∨ t = 24 ∨ t = 25 ∨ t = 26 ∨ t = 27 ∨ t = 28 ∨ t = 29 ∨ t = 30 ∨ t = 31 by omega) with rfl | rfl | rfl | rfl | rfl | rfl | rfl | rfl | rfl | rfl | rfl | rfl | rfl | rfl | rfl | rfl | rfl | rfl | rfl | rfl | rfl | rfl | rfl | rfl | rfl | rfl | rfl | rfl | rfl | rfl | rfl | rfl
      · refine lv_tableIn (off := 135) (tgt := 168) hx hb dL_law_33 (by decide) (by decide) rfl (by decide) ?_
        exact lw_c0 E X hj hcs hC hM hH hl K
      · refine lv_tableIn (off := 188) (tgt := 221) hx hb dL_law_33 (by decide) (by decide) rfl (by decide) ?_
        exact lw_c1 E X hj hcs hC hM hH hl K
      · refine lv_tableIn (off := 231) (tgt := 264) hx hb dL_law_33 (by decide) (by decide) rfl (by decide) ?_
        exact lw_c2 E X hj hcs hC hM hH hl K
      · refine lv_tableIn (off := 294) (tgt := 327) hx hb dL_law_33 (by decide) (by decide) rfl (by decide) ?_
        exact lw_c3 E X hj hcs hC hM hH hl K
      · refine lv_tableIn (off := 347) (tgt := 380) hx hb dL_law_33 (by decide) (by decide) rfl (by decide) ?_
        exact lw_c4 E X hj hcs hC hM hH hl K
      · refine lv_tableIn (off := 380) (tgt := 413) hx hb dL_law_33 (by decide) (by decide) rfl (by decide) ?_
        exact lw_c5 E X hj hcs hC hM hH hl K
      · refine lv_tableIn (off := 413) (tgt := 446) hx hb dL_law_33 (by decide) (by decide) rfl (by decide) ?_
        exact lw_c6 E X hj hcs hC hM hH hl K
      · refine lv_tableIn (off := 446) (tgt := 479) hx hb dL_law_33 (by decide) (by decide) rfl (by decide) ?_
        exact lw_c7 E X hj hcs hC hM hH hl K
      · refine lv_tableIn (off := 485) (tgt := 518) hx hb dL_law_33 (by decide) (by decide) rfl (by decide) ?_
        exact lw_c8 E X hj hcs hC hM hH hl K
      · refine lv_tableIn (off := 544) (tgt := 577) hx hb dL_law_33 (by decide) (by decide) rfl (by decide) ?_
        exact lw_c9 E X hj hcs hC hM hH hl K
      · refine lv_tableIn (off := 577) (tgt := 610) hx hb dL_law_33 (by decide) (by decide) rfl (by decide) ?_
        exact lw_c10 E X hj hcs hC hM hH hl K
      · refine lv_tableIn (off := 600) (tgt := 633) hx hb dL_law_33 (by decide) (by decide) rfl (by decide) ?_
        exact lw_c11 E X hj hcs hC hM hH hl K
      · refine lv_tableIn (off := 633) (tgt := 666) hx hb dL_law_33 (by decide) (by decide) rfl (by decide) ?_
        exact lw_c12 E X hj hcs hC hM hH hl K
      · refine lv_tableIn (off := 666) (tgt := 699) hx hb dL_law_33 (by decide) (by decide) rfl (by decide) ?_
        exact lw_c13 E X hj hcs hC hM hH hl K
      · refine lv_tableIn (off := 700) (tgt := 733) hx hb dL_law_33 (by decide) (by decide) rfl (by decide) ?_
        exact lw_c14 E X hj hcs hC hM hH hl K
      · refine lv_tableIn (off := 743) (tgt := 776) hx hb dL_law_33 (by decide) (by decide) rfl (by decide) ?_
        exact lw_c15 E X hj hcs hC hM hH hl K
      · refine lv_tableIn (off := 786) (tgt := 819) hx hb dL_law_33 (by decide) (by decide) rfl (by decide) ?_
        exact lw_c16 E X hj hcs hC hM hH hl K
      · refine lv_tableIn (off := 839) (tgt := 872) hx hb dL_law_33 (by decide) (by decide) rfl (by decide) ?_
        exact lw_c17 E X hj hcs hC hM hH hl K
      · refine lv_tableIn (off := 892) (tgt := 925) hx hb dL_law_33 (by decide) (by decide) rfl (by decide) ?_
        exact lw_c18 E X hj hcs hC hM hH hl K
      · refine lv_tableIn (off := 955) (tgt := 988) hx hb dL_law_33 (by decide) (by decide) rfl (by decide) ?_
        exact lw_c19 E X hj hcs hC hM hH hl K
      · refine lv_tableIn (off := 1008) (tgt := 1041) hx hb dL_law_33 (by decide) (by decide) rfl (by decide) ?_
        exact lw_c20 E X hj hcs hC hM hH hl K
      · refine lv_tableIn (off := 1061) (tgt := 1094) hx hb dL_law_33 (by decide) (by decide) rfl (by decide) ?_
        exact lw_c21 E X hj hcs hC hM hH hl K
      · refine lv_tableIn (off := 1104) (tgt := 1137) hx hb dL_law_33 (by decide) (by decide) rfl (by decide) ?_
        exact lw_c22 E X hj hcs hC hM hH hl K
      · refine lv_tableIn (off := 1147) (tgt := 1180) hx hb dL_law_33 (by decide) (by decide) rfl (by decide) ?_
        exact lw_c23 E X hj hcs hC hM hH hl K
      · refine lv_tableIn (off := 1200) (tgt := 1233) hx hb dL_law_33 (by decide) (by decide) rfl (by decide) ?_
        exact lw_c24 E X hj hcs hC hM hH hl K
      · refine lv_tableIn (off := 1243) (tgt := 1276) hx hb dL_law_33 (by decide) (by decide) rfl (by decide) ?_
        exact lw_c25 E X hj hcs hC hM hH hl K
      · refine lv_tableIn (off := 1297) (tgt := 1330) hx hb dL_law_33 (by decide) (by decide) rfl (by decide) ?_
        exact lw_c26 E X hj hcs hC hM hH hl K
      · refine lv_tableIn (off := 1360) (tgt := 1393) hx hb dL_law_33 (by decide) (by decide) rfl (by decide) ?_
        exact lw_c27 E X hj hcs hC hM hH hl K
      · refine lv_tableIn (off := 1393) (tgt := 1426) hx hb dL_law_33 (by decide) (by decide) rfl (by decide) ?_
        exact lw_c28 E X hj hcs hC hM hH hl K
      · refine lv_tableIn (off := 1416) (tgt := 1449) hx hb dL_law_33 (by decide) (by decide) rfl (by decide) ?_
        exact lw_c29 E X hj hcs hC hM hH hl K
      · refine lv_tableOut (tgt := 1472) hx hb dL_law_33 (by decide) (by decide) ?_
        exact W.widen (k := 37 + 3 * j + 3) (n := 419217 + 809 * j + 809) (by omega) (by omega) (K C M S ad H locs hC hM hH)
      · refine lv_tableOut (tgt := 1472) hx hb dL_law_33 (by decide) (by decide) ?_
        exact W.widen (k := 37 + 3 * j + 3) (n := 419217 + 809 * j + 809) (by omega) (by omega) (K C M S ad H locs hC hM hH)
