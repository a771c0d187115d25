/-! ===== the reference's planes ===== -/
def HoldsN (f : Nat → Int32) (l : List Nat) : Prop := ∀ m e, l[m]? = some e → f m = nI e
theorem HoldsN.snoc {f : Nat → Int32} {D : List Nat} {e : Nat} (h : HoldsN f D) : HoldsN (upd f D.length (nI e)) (D ++ [e]) := by
  intro m g hg
  by_cases em : m = D.length
  · subst em
    rw [List.getElem?_append_right (by omega), Nat.sub_self] at hg
    cases hg
    rw [pk_us]
  · rw [pk_un em]
    have hlt := (List.getElem?_eq_some_iff.mp hg).1
    rw [List.length_append, List.length_singleton] at hlt
    rw [List.getElem?_append_left (by omega)] at hg
    exact h m g hg
section PMF
variable {post : MS → Prop} {M M0 : MS} {S : Sh} {x1 x2 x3 x4 x5 : Int32}
/-- one pass: those whose bit is bt -/
theorem lm_pass {K33 : MS → Int32 → Int32 → Int32 → Int32 → Prop} {K45 : MS → Int32 → Int32 → Int32 → Int32 → Int32 → Int32 → Prop} (h0 : fL S x1 = 0) {ab bt : Nat} (hab : ab ≤ tp S x1) (hbt : bt < 2) {l : List Nat} (hl : l.length ≤ 400) (hm : ∀ e, e ∈ l → e < sL S (vr S x1)) : ∀ rest pre D M, l = pre ++ rest → D.length + (rest.filter (fun e => decide (sX S (vr S x1) e / 2 ^ (tp S x1 - ab) % 2 = bt))).length ≤ 400 → RelM M S → HoldsN (mr M 16) l → HoldsN (mr M 17) D → (∀ M', RelM M' S → HoldsN (mr M' 16) l → HoldsN (mr M' 17) (D ++ rest.filter (fun e => decide (sX S (vr S x1) e / 2 ^ (tp S x1 - ab) % 2 = bt))) → K45 M' x1 x2 (nI l.length) (nI ab) (nI (D ++ rest.filter (fun e => decide (sX S (vr S x1) e / 2 ^ (tp S x1 - ab) % 2 = bt))).length) (nI bt + 1)) → w_X4_arrange_54 post K33 K45 (rest.length + 1) M x1 x2 (nI l.length) (nI ab) (nI D.length) (nI bt) (nI pre.length) := by
  intro rest
  induction rest with
  | nil =>
    intro pre D M e hD hR h16 h17 hp
    rw [List.append_nil] at e
    subst e
    refine ⟨fun _ => ?_, fun q => absurd (nI_le (by omega) (by omega)) q⟩
    have := hp M hR h16 (by rw [List.filter_nil, List.append_nil]; exact h17)
    rw [List.filter_nil, List.append_nil] at this
    exact this
  | cons g rest ih =>
    intro pre D M e hD hR h16 h17 hp
    have hlen : pre.length < l.length := by rw [e, List.length_append, List.length_cons]; omega
    have hat : l[pre.length]? = some g := by rw [e, List.getElem?_append_right (by omega), Nat.sub_self]; rfl
    have hg : g < sL S (vr S x1) := hm g (List.mem_of_getElem? hat)
    obtain ⟨hi1, a1, a2, a3, a4, a5⟩ := hR.at h0
    have hx := hR.inv.2.2.2.2.2.2.1 _ g a2 hg
    have htp := tp_le S x1
    have h16g : mr M 16 pre.length = nI g := h16 _ _ hat
    have hb2 : sX S (vr S x1) g / 2 ^ (tp S x1 - ab) % 2 < 2 := Nat.mod_lt _ (by omega)
    have e' : l = (pre ++ [g]) ++ rest := by rw [e, List.append_assoc]; rfl
    have epre : (pre ++ [g]).length = pre.length + 1 := by rw [List.length_append, List.length_singleton]
    refine ⟨fun q => absurd q (nI_ge (by omega) (by omega)), fun _ => ⟨vin_nI (by omega) (by omega), ?_⟩⟩
    rw [tn_nI (n := pre.length) (by omega), h16g]
    refine pm_val hR h0 hg (pm_bits hR h0 ?_)
    show (¬ _ = nI bt → w_X4_arrange_54 post K33 K45 (rest.length + 1) M x1 x2 (nI l.length) (nI ab) (nI D.length) (nI bt) (nI pre.length + 1)) ∧ (_ = nI bt → vp_in (nI D.length) 400 ∧ w_X4_arrange_54 post K33 K45 (rest.length + 1) (mru M 17 (upd (mr M 17) (Int32.toNatClampNeg (nI D.length)) (mr M 16 pre.length))) x1 x2 (nI l.length) (nI ab) (nI D.length + 1) (nI bt) (nI pre.length + 1))
    rw [show (1 : Int32) = nI 1 from rfl, pk_sub (by omega), Nat.add_sub_cancel, pk_sub (by omega)]
    rw [show nI 1 = (1 : Int32) from rfl, bit_s hx (by omega), nI_eq (by omega) (by omega), nI_1, nI_1, ← epre]
    rw [List.filter_cons] at hD hp
    refine ⟨fun q => ?_, fun q => ?_⟩
    · rw [if_neg (by simpa using q)] at hD hp
      exact ih (pre ++ [g]) D M e' hD hR h16 h17 hp
    · rw [if_pos (by simpa using q)] at hD hp
      rw [List.length_cons] at hD
      rw [tn_nI (n := D.length) (by omega), h16g]
      refine ⟨vin_nI (by omega) (by omega), ?_⟩
      have := ih (pre ++ [g]) (D ++ [g]) (mru M 17 (upd (mr M 17) D.length (nI g))) e' (by rw [List.length_append, List.length_singleton]; omega) (hR.same (rs := [17]) (SameY.r (by decide)) (by decide)) h16 h17.snoc (fun M' hR' q16 q17 => by
        rw [List.append_assoc] at q17 ⊢
        exact hp M' hR' q16 q17)
      rw [List.length_append, List.length_singleton] at this
      exact this
theorem lm_back {K33 : MS → Int32 → Int32 → Int32 → Int32 → Prop} {ab : Nat} {l : List Nat} (hl : l.length ≤ 400) (hp : ∀ M', RelM M' S → HoldsN (mr M' 16) l → K33 M' x1 x2 (nI l.length) (nI ab + 1)) : ∀ k m M, m + k = l.length → RelM M S → HoldsN (mr M 16) (l.take m) → HoldsN (mr M 17) l → w_X4_arrange_122 post K33 (k + 1) M x1 x2 (nI l.length) (nI ab) (nI m) := by
  intro k
  induction k with
  | zero =>
    intro m M hm hR h16 h17
    rw [show m = l.length by omega, List.take_length] at h16
    exact ⟨fun _ => hp M hR h16, fun q => absurd (nI_le (by omega) (by omega)) q⟩
  | succ k ih =>
    intro m M hm hR h16 h17
    have hlt : m < l.length := by omega
    have hat : l[m]? = some l[m] := List.getElem?_eq_getElem hlt
    refine ⟨fun q => absurd q (nI_ge (by omega) (by omega)), fun _ => ⟨vin_nI (by omega) (by omega), ?_⟩⟩
    rw [tn_nI (by omega), h17 m _ hat, nI_1]
    refine ih (m + 1) _ (by omega) (hR.same (rs := [16]) (SameY.r (by decide)) (by decide)) ?_ h17
    show HoldsN (upd (mr M 16) m (nI l[m])) (l.take (m + 1))
    rw [List.take_add_one, hat]
    show HoldsN (upd (mr M 16) m (nI l[m])) (l.take m ++ [l[m]])
    have hlen : (l.take m).length = m := by rw [List.length_take]; omega
    have := HoldsN.snoc (e := l[m]) h16
    rw [hlen] at this
    exact this
theorem lm_planes (h0 : fL S x1 = 0) {pl : Nat} (hpl : pl ≤ tp S x1) {l0 : List Nat} (hl : l0.length ≤ 400) (hm : ∀ e, e ∈ l0 → e < sL S (vr S x1)) (hp : ∀ M', RelM M' S → HoldsN (mr M' 16) (ordL (sX S (vr S x1)) (tp S x1) pl l0) → post M') : ∀ k ab M, ab + k = pl → RelM M S → HoldsN (mr M 16) (ordL (sX S (vr S x1)) (tp S x1) ab l0) → w_X4_arrange_33 post (k + 1) M x1 (nI pl) (nI l0.length) (nI ab) := by
  intro k
  induction k with
  | zero =>
    intro ab M hab hR h16
    have e : ab = pl := by omega
    subst e
    have htp := tp_le S x1
    exact ⟨fun _ => hp M hR h16, fun q => absurd (nI_le (by omega) (by omega)) q⟩
  | succ k ih =>
    intro ab M hab hR h16
    have htp := tp_le S x1
    obtain ⟨l, hle⟩ : ∃ l, ordL (sX S (vr S x1)) (tp S x1) ab l0 = l := ⟨_, rfl⟩
    have hlen : l.length = l0.length := by rw [← hle, ordL_len]
    have hml : ∀ e, e ∈ l → e < sL S (vr S x1) := fun e he => hm e (ordL_mem _ _ e (by rw [hle]; exact he))
    have hspl : ordL (sX S (vr S x1)) (tp S x1) (ab + 1) l0 = l.filter (fun e => decide (sX S (vr S x1) e / 2 ^ (tp S x1 - ab) % 2 = 0)) ++ l.filter (fun e => decide (sX S (vr S x1) e / 2 ^ (tp S x1 - ab) % 2 = 1)) := by
      rw [ordL, hle]
      unfold splL
      rw [List.filter_congr (q := fun e => decide (sX S (vr S x1) e / 2 ^ (tp S x1 - ab) % 2 = 0)) (fun e he => by
        unfold bitP
        have hb2 : sX S (vr S x1) e / 2 ^ (tp S x1 - ab) % 2 < 2 := Nat.mod_lt _ (by omega)
        rw [← decide_not]; exact decide_eq_decide.mpr (by omega))]
      rfl
    rw [hle] at h16
    refine ⟨fun q => absurd q (nI_ge (by omega) (by omega)), fun _ => ⟨3, ?_⟩⟩
    have hf0 : (l.filter (fun e => decide (sX S (vr S x1) e / 2 ^ (tp S x1 - ab) % 2 = 0))).length ≤ l.length := List.length_filter_le _ _
    have hff : (l.filter (fun e => decide (sX S (vr S x1) e / 2 ^ (tp S x1 - ab) % 2 = 0)) ++ l.filter (fun e => decide (sX S (vr S x1) e / 2 ^ (tp S x1 - ab) % 2 = 1))).length = l.length := by
      rw [← hspl, ordL_len, hlen]
    refine ⟨fun q => absurd q (by decide), fun _ => ⟨l.length + 1, ?_⟩⟩
    rw [← hlen]
    refine lm_pass (bt := 0) h0 (by omega) (by omega) (by omega) hml l [] [] M rfl (by rw [List.length_nil]; omega) hR h16 (fun m e h => by simp at h) (fun M1 hR1 q16 q17 => ?_)
    rw [List.nil_append] at q17 ⊢
    refine ⟨fun q => absurd q (by decide), fun _ => ⟨l.length + 1, ?_⟩⟩
    refine lm_pass (bt := 1) h0 (by omega) (by omega) (by omega) hml l [] (l.filter (fun e => decide (sX S (vr S x1) e / 2 ^ (tp S x1 - ab) % 2 = 0))) M1 rfl (by rw [← List.length_append]; omega) hR1 q16 q17 (fun M2 hR2 r16 r17 => ?_)
    refine ⟨fun _ => ⟨l.length + 1, ?_⟩, fun q => absurd (by decide) q⟩
    rw [← hspl] at r17
    have hlo : (ordL (sX S (vr S x1)) (tp S x1) (ab + 1) l0).length = l.length := by rw [ordL_len, hlen]
    have := lm_back (S := S) (post := post) (x1 := x1) (x2 := nI pl) (K33 := w_X4_arrange_33 post (k + 1)) (ab := ab) (l := ordL (sX S (vr S x1)) (tp S x1) (ab + 1) l0) (by omega) (fun M3 hR3 s16 => by
      rw [nI_1, hlo, hlen]
      exact ih (ab + 1) M3 (by omega) hR3 s16) l.length 0 M2 (by omega) hR2 (by rw [List.take_zero]; exact fun m e h => by simp at h) r17
    rw [hlo] at this
    exact this
theorem lm_ord {pl L : Nat} (hL : L ≤ 400) (hp : ∀ M', RelM M' S → HoldsN (mr M' 16) (List.range L) → ∃ n, w_X4_arrange_33 post n M' x1 (nI pl) (nI L) 0) : ∀ k i M, i + k = L → RelM M S → HoldsN (mr M 16) (List.range i) → w_X4_arrange_9 post (k + 1) M x1 (nI pl) (nI L) (nI i) := by
  intro k
  induction k with
  | zero =>
    intro i M hi hR h16
    have e : i = L := by omega
    subst e
    exact ⟨fun _ => hp M hR h16, fun q => absurd (nI_le (by omega) (by omega)) q⟩
  | succ k ih =>
    intro i M hi hR h16
    refine ⟨fun q => absurd q (nI_ge (by omega) (by omega)), fun _ => ⟨vin_nI (by omega) (by omega), ?_⟩⟩
    rw [tn_nI (by omega), nI_1]
    refine ih (i + 1) _ (by omega) (hR.same (rs := [16]) (SameY.r (by decide)) (by decide)) ?_
    show HoldsN (upd (mr M 16) i (nI i)) (List.range (i + 1))
    have := HoldsN.snoc (e := i) h16
    rw [List.length_range] at this
    rw [List.range_succ]
    exact this
theorem pm_arrange (hR : RelM M S) (h0 : fP S x1 x2 = 0) (h : ∀ M', RelM M' S → HoldsN (mr M' 16) (plL S x1 x2) → post M') : w_X4_arrange post M x1 x2 := by
  obtain ⟨f0, f1, f2, f3⟩ := fP_0 h0
  obtain ⟨hi, a1, a2, a3, a4, a5⟩ := hR.at f0
  have htp := tp_le S x1
  have h2 := tn_int f2
  rw [fa_lt, nI_toInt (by omega)] at f3
  have hpl : x2.toNatClampNeg ≤ tp S x1 := by omega
  have ex : x2 = nI x2.toNatClampNeg := (nI_tn f2).symm
  unfold plL at h
  obtain ⟨pl, hple⟩ : ∃ pl, x2.toNatClampNeg = pl := ⟨_, rfl⟩
  rw [hple] at h ex hpl
  subst ex
  refine pm_size hR f0 ⟨sL S (vr S x1) + 1, ?_⟩
  refine lm_ord a3 (fun M1 hR1 q16 => ⟨pl + 1, ?_⟩) (sL S (vr S x1)) 0 M (by omega) hR (fun m e h => by simp at h)
  have := lm_planes (post := post) f0 hpl (l0 := List.range (sL S (vr S x1))) (by rw [List.length_range]; exact a3) (fun e he => List.mem_range.mp he) h pl 0 M1 (by omega) hR1 q16
  rw [List.length_range] at this
  exact this
theorem pm_bitOf {post : Int32 → MS → Prop} (hR : RelM M S) (h0 : fP S x1 x2 = 0) (h16 : HoldsN (mr M 16) (plL S x1 x2)) {m : Nat} (hm : m < sL S (vr S x1)) (h : post (nI (bv (sX S (vr S x1)) (tp S x1 - x2.toNatClampNeg) (plL S x1 x2) m)) M) : w_X4_bitOf post M x1 x2 (nI m) := by
  obtain ⟨f0, f1, f2, f3⟩ := fP_0 h0
  obtain ⟨hi, a1, a2, a3, a4, a5⟩ := hR.at f0
  have htp := tp_le S x1
  have h2 := tn_int f2
  rw [fa_lt, nI_toInt (by omega)] at f3
  have hpl : x2.toNatClampNeg ≤ tp S x1 := by omega
  obtain ⟨e1, e2⟩ := plL_at (S := S) (x1 := x1) (x2 := x2) hm
  have hx := hR.inv.2.2.2.2.2.2.1 _ _ a2 e2
  refine ⟨vin_nI (by omega) (by omega), ?_⟩
  rw [tn_nI (by omega), h16 m _ e1]
  refine pm_val hR f0 e2 (pm_bits hR f0 ?_)
  show post (_ &&& (1 : Int32)) M
  have es : nI (tp S x1 + 1) - 1 - x2 = nI (tp S x1 - x2.toNatClampNeg) := by
    rw [show (1 : Int32) = nI 1 from rfl, pk_sub (by omega), Nat.add_sub_cancel]
    conv => lhs; rw [← nI_tn f2]
    rw [pk_sub hpl]
  rw [es, bit_s hx (by omega)]
  exact h
theorem pm_bit {post : Int32 → MS → Prop} (hR : RelM M S) (h : ∀ M', RelM M' (sp_bit S x1 x2 x3).2 → post (sp_bit S x1 x2 x3).1 M') : w_X4_bit post M x1 x2 x3 := by
  unfold sp_bit at h
  refine pm_lookPlane hR ?_
  show (ng (fP S x1 x2) < 0 → _) ∧ (¬ ng (fP S x1 x2) < 0 → _)
  rw [(ng_lt _ (fP_le S x1 x2)).1]
  refine ⟨fun e => ?_, fun e => ?_⟩
  · have hB : fB S x1 x2 x3 = fP S x1 x2 := by unfold fB; rw [if_neg e]
    rw [hB, if_neg e] at h
    exact pm_two (k := fP S x1 x2) (e := 1) hR (fP_le S x1 x2) (by decide) (by decide) (by rw [if_neg e]; exact h)
  · have e := Classical.not_not.mp e
    have hB : fB S x1 x2 x3 = (if x3 < 0 then 1 else if nI (sL S (vr S x1)) ≤ x3 then 1 else 0) := by unfold fB; rw [if_pos e]
    obtain ⟨f0, f1, f2, f3⟩ := fP_0 e
    obtain ⟨hi, a1, a2, a3, a4, a5⟩ := hR.at f0
    have hno : fB S x1 x2 x3 = 1 → w_X4_bit_26 post M (ng (fP S x1 x2)) := fun q => by
      rw [q, if_neg (by decide)] at h
      exact pm_two (k := fP S x1 x2) (e := 1) hR (fP_le S x1 x2) (by decide) (by decide) (by rw [if_pos e]; exact h)
    refine ⟨fun g => hno (by rw [hB, if_pos g]), fun g => pm_size hR f0 ⟨fun g2 => ?_, fun g2 => hno (by rw [hB, if_neg g, if_pos (Int32.not_lt.mp g2)])⟩⟩
    rw [hB, if_neg g, if_neg (Int32.not_le.mpr g2), if_pos rfl] at h
    obtain ⟨j, rfl, hj⟩ := idx_nat a3 g (Int32.not_le.mpr g2)
    rw [tn_nI (by omega)] at h
    exact pm_arrange hR e (fun M1 hR1 q16 => pm_bitOf hR1 e q16 hj (h M1 hR1))
theorem lm_ones {post : Int32 → MS → Prop} (hR : RelM M S) (h0 : fP S x1 x2 = 0) (h16 : HoldsN (mr M 16) (plL S x1 x2)) {n : Nat} (hn : n ≤ sL S (vr S x1)) (hL : sL S (vr S x1) ≤ 400) : ∀ k a r, a + k = n → post (nI (fold (fun m n => n + bv (sX S (vr S x1)) (tp S x1 - x2.toNatClampNeg) (plL S x1 x2) m) a k r)) M → w_X4_ones_54 post (k + 1) M x1 x2 (nI n) (nI r) (nI a) := by
  intro k
  induction k with
  | zero => intro a r ha h; exact ⟨fun _ => h, fun q => absurd (nI_le (by omega) (by omega)) q⟩
  | succ k ih =>
    intro a r ha h
    rw [fold] at h
    refine ⟨fun q => absurd q (nI_ge (by omega) (by omega)), fun _ => pm_bitOf hR h0 h16 (by omega) ?_⟩
    show w_X4_ones_54 post (k + 1) M x1 x2 (nI n) (nI r + _) (nI a + 1)
    rw [nI_add, nI_1]
    exact ih (a + 1) _ (by omega) h
theorem pm_ones {post : Int32 → MS → Prop} (hR : RelM M S) (h : ∀ M', RelM M' (sp_ones S x1 x2 x3).2 → post (sp_ones S x1 x2 x3).1 M') : w_X4_ones post M x1 x2 x3 := by
  unfold sp_ones at h
  refine pm_lookPlane hR ?_
  show (ng (fP S x1 x2) < 0 → _) ∧ (¬ ng (fP S x1 x2) < 0 → _)
  rw [(ng_lt _ (fP_le S x1 x2)).1]
  refine ⟨fun e => ?_, fun e => ?_⟩
  · have hB : fO S x1 x2 x3 = fP S x1 x2 := by unfold fO; rw [if_neg e]
    rw [hB, if_neg e] at h
    exact pm_two (k := fP S x1 x2) (e := 1) hR (fP_le S x1 x2) (by decide) (by decide) (by rw [if_neg e]; exact h)
  · have e := Classical.not_not.mp e
    have hB : fO S x1 x2 x3 = (if x3 < 0 then 1 else if nI (sL S (vr S x1)) < x3 then 1 else 0) := by unfold fO; rw [if_pos e]
    obtain ⟨f0, f1, f2, f3⟩ := fP_0 e
    obtain ⟨hi, a1, a2, a3, a4, a5⟩ := hR.at f0
    have hno : fO S x1 x2 x3 = 1 → w_X4_ones_26 post M (ng (fP S x1 x2)) := fun q => by
      rw [q, if_neg (by decide)] at h
      exact pm_two (k := fP S x1 x2) (e := 1) hR (fP_le S x1 x2) (by decide) (by decide) (by rw [if_pos e]; exact h)
    refine ⟨fun g => hno (by rw [hB, if_pos g]), fun g => pm_size hR f0 ⟨fun g2 => ?_, fun g2 => hno (by rw [hB, if_neg g, if_pos (Int32.not_le.mp g2)])⟩⟩
    rw [hB, if_neg g, if_neg (Int32.not_lt.mpr g2), if_pos rfl] at h
    have h3 := tn_int g
    rw [fa_le, nI_toInt (by omega)] at g2
    obtain ⟨n, hne⟩ : ∃ n, x3.toNatClampNeg = n := ⟨_, rfl⟩
    have ex : x3 = nI n := by rw [← hne]; exact (nI_tn g).symm
    rw [hne] at h h3
    rw [ex]
    exact pm_arrange hR e (fun M1 hR1 q16 => ⟨n + 1, lm_ones hR1 e q16 (by omega) a3 n 0 0 (by omega) (h M1 hR1)⟩)
end PMF
