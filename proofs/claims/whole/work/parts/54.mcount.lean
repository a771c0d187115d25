theorem nI_dec {l : Nat} (h : l ≠ 0) : nI l + (-1) = nI (l - 1) := by
  obtain ⟨m, rfl⟩ : ∃ m, l = m + 1 := ⟨l - 1, by omega⟩
  rw [← nI_1, Int32.add_assoc, show (1 : Int32) + (-1) = 0 from rfl, Int32.add_zero]; rfl
section PME
variable {post : Int32 → MS → Prop} {M M0 : MS} {S : Sh} {x1 x2 x3 x4 x5 : Int32}
theorem lm_zero18 {post : MS → Prop} (hp : ∀ M', SameY [] [18] M0 M' → (∀ m, m < 1024 → mr M' 18 m = 0) → ∃ n, w_X4_count18_26 post n M' x1 x3 x2) : ∀ k v M, v + k = 1024 → SameY [] [18] M0 M → (∀ m, m < v → mr M 18 m = 0) → w_X4_count18_3 post (k + 1) M x1 x2 x3 (nI v) := by
  intro k
  induction k with
  | zero => intro v M hv hs hf; exact ⟨fun _ => hp M hs (fun m hm => hf m (by omega)), fun q => absurd (nI_le (a := 1024) (by omega) (by omega)) q⟩
  | succ k ih =>
    intro v M hv hs hf
    refine ⟨fun q => absurd q (nI_ge (b := 1024) (by omega) (by omega)), fun _ => ⟨vin_nI (by omega) (by omega), ?_⟩⟩
    rw [nI_1]
    refine ih (v + 1) _ (by omega) (hs.tr (SameY.r (by decide))) (fun m hm => ?_)
    show upd (mr M 18) (nI v).toNatClampNeg 0 m = 0
    rw [tn_nI (by omega)]
    by_cases e : m = v
    · subst e; rw [pk_us]
    · rw [pk_un e]; exact hf m (by omega)
theorem lm_cnt18 {post : MS → Prop} (h0 : fL S x1 = 0) {b : Nat} (hb : b ≤ sL S (vr S x1)) : ∀ k a M, a + k = b → RelM M S → SameY [] [18] M0 M → (∀ M', RelM M' S → SameY [] [18] M0 M' → mr M' 18 = fold (fun i g => upd g (sX S (vr S x1) i) (g (sX S (vr S x1) i) + 1)) a k (mr M 18) → post M') → w_X4_count18_26 post (k + 1) M x1 (nI b) (nI a) := by
  intro k
  induction k with
  | zero =>
    intro a M ha hR hs h
    have a3 := (hR.at h0).2.2.2.1
    exact ⟨fun _ => h M hR hs rfl, fun q => absurd (nI_le (by omega) (by omega)) q⟩
  | succ k ih =>
    intro a M ha hR hs h
    obtain ⟨hi1, a1, a2, a3, a4, a5⟩ := hR.at h0
    have hx := hR.inv.2.2.2.2.2.2.1 _ a a2 (by omega)
    refine ⟨fun q => absurd q (nI_ge (by omega) (by omega)), fun _ => pm_val hR h0 (by omega) ?_⟩
    show vp_in (nI (sX S (vr S x1) a)) 1024 ∧ w_X4_count18_26 post (k + 1) (mru M 18 (upd (mr M 18) (Int32.toNatClampNeg (nI (sX S (vr S x1) a))) ((mr M 18) (Int32.toNatClampNeg (nI (sX S (vr S x1) a))) + 1))) x1 (nI b) (nI a + 1)
    rw [nI_1, tn_nI (by omega)]
    refine ⟨vin_nI hx (by omega), ih (a + 1) _ (by omega) (hR.same (rs := [18]) (SameY.r (by decide)) (by decide)) (hs.tr (SameY.r (by decide))) (fun M' hR' hs' he => h M' hR' hs' ?_)⟩
    rw [he, fold]; rfl
theorem pm_count18 {post : MS → Prop} (hR : RelM M S) (h0 : fL S x1 = 0) {i j : Nat} (hij : i ≤ j) (hj : j ≤ sL S (vr S x1)) (h : ∀ M', RelM M' S → SameY [] [18] M M' → (∀ v, v < 1024 → mr M' 18 v = nI (cnt (sX S (vr S x1)) i (j - i) v)) → post M') : w_X4_count18 post M x1 (nI i) (nI j) := by
  refine ⟨1024 + 1, lm_zero18 (M0 := M) (fun M1 hs1 hz1 => ⟨j - i + 1, ?_⟩) 1024 0 M (by omega) SameY.rf (fun m hm => by omega)⟩
  have hR1 := hR.same hs1 (by decide)
  refine lm_cnt18 (M0 := M) h0 hj (j - i) i M1 (by omega) hR1 hs1 (fun M2 hR2 hs2 he => h M2 hR2 hs2 (fun v hv => ?_))
  rw [he, cadd_val, hz1 v hv]
  have := addN_1 (cnt (sX S (vr S x1)) i (j - i) v) 0
  rw [Nat.zero_add] at this
  exact this
theorem lm_zero19 {post : MS → Prop} (hp : ∀ M', SameY [] [19] M0 M' → (∀ m, m < 1024 → mr M' 19 m = 0) → ∃ n, w_X4_count19_26 post n M' x1 x3 x2) : ∀ k v M, v + k = 1024 → SameY [] [19] M0 M → (∀ m, m < v → mr M 19 m = 0) → w_X4_count19_3 post (k + 1) M x1 x2 x3 (nI v) := by
  intro k
  induction k with
  | zero => intro v M hv hs hf; exact ⟨fun _ => hp M hs (fun m hm => hf m (by omega)), fun q => absurd (nI_le (a := 1024) (by omega) (by omega)) q⟩
  | succ k ih =>
    intro v M hv hs hf
    refine ⟨fun q => absurd q (nI_ge (b := 1024) (by omega) (by omega)), fun _ => ⟨vin_nI (by omega) (by omega), ?_⟩⟩
    rw [nI_1]
    refine ih (v + 1) _ (by omega) (hs.tr (SameY.r (by decide))) (fun m hm => ?_)
    show upd (mr M 19) (nI v).toNatClampNeg 0 m = 0
    rw [tn_nI (by omega)]
    by_cases e : m = v
    · subst e; rw [pk_us]
    · rw [pk_un e]; exact hf m (by omega)
theorem lm_cnt19 {post : MS → Prop} (h0 : fL S x1 = 0) {b : Nat} (hb : b ≤ sL S (vr S x1)) : ∀ k a M, a + k = b → RelM M S → SameY [] [19] M0 M → (∀ M', RelM M' S → SameY [] [19] M0 M' → mr M' 19 = fold (fun i g => upd g (sX S (vr S x1) i) (g (sX S (vr S x1) i) + 1)) a k (mr M 19) → post M') → w_X4_count19_26 post (k + 1) M x1 (nI b) (nI a) := by
  intro k
  induction k with
  | zero =>
    intro a M ha hR hs h
    have a3 := (hR.at h0).2.2.2.1
    exact ⟨fun _ => h M hR hs rfl, fun q => absurd (nI_le (by omega) (by omega)) q⟩
  | succ k ih =>
    intro a M ha hR hs h
    obtain ⟨hi1, a1, a2, a3, a4, a5⟩ := hR.at h0
    have hx := hR.inv.2.2.2.2.2.2.1 _ a a2 (by omega)
    refine ⟨fun q => absurd q (nI_ge (by omega) (by omega)), fun _ => pm_val hR h0 (by omega) ?_⟩
    show vp_in (nI (sX S (vr S x1) a)) 1024 ∧ w_X4_count19_26 post (k + 1) (mru M 19 (upd (mr M 19) (Int32.toNatClampNeg (nI (sX S (vr S x1) a))) ((mr M 19) (Int32.toNatClampNeg (nI (sX S (vr S x1) a))) + 1))) x1 (nI b) (nI a + 1)
    rw [nI_1, tn_nI (by omega)]
    refine ⟨vin_nI hx (by omega), ih (a + 1) _ (by omega) (hR.same (rs := [19]) (SameY.r (by decide)) (by decide)) (hs.tr (SameY.r (by decide))) (fun M' hR' hs' he => h M' hR' hs' ?_)⟩
    rw [he, fold]; rfl
theorem pm_count19 {post : MS → Prop} (hR : RelM M S) (h0 : fL S x1 = 0) {i j : Nat} (hij : i ≤ j) (hj : j ≤ sL S (vr S x1)) (h : ∀ M', RelM M' S → SameY [] [19] M M' → (∀ v, v < 1024 → mr M' 19 v = nI (cnt (sX S (vr S x1)) i (j - i) v)) → post M') : w_X4_count19 post M x1 (nI i) (nI j) := by
  refine ⟨1024 + 1, lm_zero19 (M0 := M) (fun M1 hs1 hz1 => ⟨j - i + 1, ?_⟩) 1024 0 M (by omega) SameY.rf (fun m hm => by omega)⟩
  have hR1 := hR.same hs1 (by decide)
  refine lm_cnt19 (M0 := M) h0 hj (j - i) i M1 (by omega) hR1 hs1 (fun M2 hR2 hs2 he => h M2 hR2 hs2 (fun v hv => ?_))
  rw [he, cadd_val, hz1 v hv]
  have := addN_1 (cnt (sX S (vr S x1)) i (j - i) v) 0
  rw [Nat.zero_add] at this
  exact this
theorem cnt_le {X : Nat → Nat} {a k v : Nat} : cnt X a k v ≤ k := cntF_le k a
theorem lm_half {c : Nat → Nat} {i j n : Nat} (hR : RelM M S) (hij : i ≤ j) (hj : j ≤ 400) (hc : ∀ v, v < 1024 → mr M 18 v = nI (c v) ∧ c v ≤ 400) (hn : fstF (fun v => decide (j - i < 2 * c v)) 1024 = n) (h : ∀ M', RelM M' (enc S n).2 → post (enc S n).1 M') : ∀ k v, v + k = 1024 → (∀ u, u < v → decide (j - i < 2 * c u) = false) → w_X4_half_35 post (k + 1) M (nI i) (nI j) (nI v) := by
  intro k
  induction k with
  | zero =>
    intro v hv hq
    have e : v = 1024 := by omega
    subst e
    rw [fst_no (fun u hu => hq u hu)] at hn
    subst hn
    exact ⟨fun _ => pm_ans (k := 6) hR (by decide) (by decide) h, fun q => absurd (nI_le (a := 1024) (by omega) (by omega)) q⟩
  | succ k ih =>
    intro v hv hq
    obtain ⟨g1, g2⟩ := hc v (by omega)
    refine ⟨fun q => absurd q (nI_ge (b := 1024) (by omega) (by omega)), fun _ => ⟨vin_nI (by omega) (by omega), ?_⟩⟩
    rw [tn_nI (by omega), g1, show (2 : Int32) = nI 2 from rfl, pk_mul, pk_sub hij, nI_leI (by omega) (by omega), nI_1]
    refine ⟨fun q => ih (v + 1) (by omega) (fun u hu => ?_), fun q => ?_⟩
    · by_cases e : u = v
      · subst e; simp; omega
      · exact hq u (by omega)
    · rw [fst_eq hq (by simp; omega) (by omega)] at hn
      subst hn
      unfold enc at h
      rw [if_neg (by omega)] at h
      exact h M hR
theorem pm_half (hR : RelM M S) (h : ∀ M', RelM M' (sp_half S x1 x2 x3).2 → post (sp_half S x1 x2 x3).1 M') : w_X4_half post M x1 x2 x3 := by
  unfold sp_half sp_span at h
  refine pm_atSpan hR (fun e => ⟨fun q => absurd q (ng_nn (fS_le S x1 x2 x3) e), fun _ => ?_⟩) (fun i j e ei ej hij hjl hL hv h0 => ⟨fun _ => ?_, fun q => absurd (by decide) q⟩)
  · rw [if_neg e] at h; exact pm_ans hR (fS_le S x1 x2 x3) e h
  · subst ei ej
    rw [if_pos e, sa_nI (by omega), sa_nI (by omega)] at h
    refine pm_count18 hR h0 hij hjl (fun M' hR' hs' hc => ⟨1024 + 1, ?_⟩)
    obtain ⟨n, hn⟩ : ∃ n, fstF (fun v => decide (j - i < 2 * cnt (sX S (vr S x1)) i (j - i) v)) 1024 = n := ⟨_, rfl⟩
    rw [hn] at h
    exact lm_half (c := cnt (sX S (vr S x1)) i (j - i)) hR' hij (by omega) (fun v hv => ⟨hc v hv, Nat.le_trans cnt_le (by omega)⟩) hn h 1024 0 (by omega) (fun u hu => by omega)
theorem lm_dist {c : Nat → Nat} (hc : ∀ v, v < 1024 → mr M 18 v = nI (c v) ∧ c v ≤ 400) : ∀ k v n, v + k = 1024 → post (nI (fold (fun v n => if decide (c v ≠ 0) = true then n + 1 else n) v k n)) M → w_X4_distinct_38 post (k + 1) M (nI n) (nI v) := by
  intro k
  induction k with
  | zero => intro v n hv h; exact ⟨fun _ => h, fun q => absurd (nI_le (a := 1024) (by omega) (by omega)) q⟩
  | succ k ih =>
    intro v n hv h
    obtain ⟨g1, g2⟩ := hc v (by omega)
    rw [fold] at h
    refine ⟨fun q => absurd q (nI_ge (b := 1024) (by omega) (by omega)), fun _ => ⟨vin_nI (by omega) (by omega), fun q => ?_, fun q => ?_⟩⟩
    · rw [tn_nI (by omega), g1, show (0 : Int32) = nI 0 from rfl, nI_leI (by omega) (by omega)] at q
      rw [if_neg (by simp; omega)] at h
      show w_X4_distinct_38 post (k + 1) M (nI n + nI 0) (nI v + 1)
      rw [nI_1, nI_add]; exact ih (v + 1) n (by omega) h
    · rw [tn_nI (by omega), g1, show (0 : Int32) = nI 0 from rfl, nI_leI (by omega) (by omega)] at q
      rw [if_pos (by simp; omega)] at h
      show w_X4_distinct_38 post (k + 1) M (nI n + nI 1) (nI v + 1)
      rw [nI_1, nI_add]; exact ih (v + 1) (n + 1) (by omega) h
theorem pm_distinct (hR : RelM M S) (h : ∀ M', RelM M' (sp_distinct S x1 x2 x3).2 → post (sp_distinct S x1 x2 x3).1 M') : w_X4_distinct post M x1 x2 x3 := by
  unfold sp_distinct sp_span at h
  refine pm_atSpan hR (fun e => ⟨fun q => absurd q (ng_nn (fS_le S x1 x2 x3) e), fun _ => ?_⟩) (fun i j e ei ej hij hjl hL hv h0 => ⟨fun _ => ?_, fun q => absurd (by decide) q⟩)
  · rw [if_neg e] at h; exact pm_ans hR (fS_le S x1 x2 x3) e h
  · subst ei ej
    rw [if_pos e, sa_nI (by omega), sa_nI (by omega)] at h
    refine pm_count18 hR h0 hij hjl (fun M' hR' hs' hc => ⟨1024 + 1, ?_⟩)
    exact lm_dist (c := cnt (sX S (vr S x1)) i (j - i)) (fun v hv => ⟨hc v hv, Nat.le_trans cnt_le (by omega)⟩) 1024 0 0 (by omega) (h M' hR')
/-! often -/
theorem kvF_lt {p : Nat → Bool} : ∀ k a l, a + k = 1024 → l < cntF p a k → kvF p a k l < 1024 := by
  intro k
  induction k with
  | zero => intro a l _ h; exact absurd h (Nat.not_lt_zero _)
  | succ k ih =>
    intro a l ha h
    rw [cntF_succ] at h
    rw [kvF]
    by_cases e : p a = true
    · rw [if_pos e] at h ⊢
      by_cases e2 : l = 0
      · rw [if_pos e2]; omega
      · rw [if_neg e2]; exact ih _ _ (by omega) (by omega)
    · rw [if_neg e] at h ⊢; exact ih _ _ (by omega) (by omega)
theorem ofF_skip {c : Nat → Nat} {t : Nat} (hc : ∀ v, v < 1024 → c v ≤ t) : ∀ k l, ofF c (t + k) l = ofF c t l := by
  intro k
  induction k with
  | zero => intro l; rfl
  | succ k ih =>
    intro l
    have hz : cnt c 0 1024 (t + k + 1) = 0 := cntF_none 1024 0 (fun i h1 h2 => by have := hc i (by omega); simp; omega)
    show ofF c (t + k + 1) l = _
    rw [ofF, hz, if_neg (by omega), Nat.sub_zero]; exact ih l
theorem lm_ofIn {c : Nat → Nat} {t : Nat} {K : MS → Int32 → Int32 → Prop} (hc : ∀ v, v < 1024 → mr M 18 v = nI (c v) ∧ c v ≤ 400) (ht : t ≤ 400) : ∀ k v l, v + k = 1024 → l < 2147483648 → (l < cntF (fun v => decide (c v = t)) v k → post (nI (kvF (fun v => decide (c v = t)) v k l)) M) → (¬ l < cntF (fun v => decide (c v = t)) v k → K M (nI (l - cntF (fun v => decide (c v = t)) v k)) (nI t + (-1))) → w_X4_often_49 post K (k + 1) M (nI l) (nI t) (nI v) := by
  intro k
  induction k with
  | zero =>
    intro v l hv hl h1 h2
    exact ⟨fun _ => h2 (Nat.not_lt_zero _), fun q => absurd (nI_le (a := 1024) (by omega) (by omega)) q⟩
  | succ k ih =>
    intro v l hv hl h1 h2
    obtain ⟨g1, g2⟩ := hc v (by omega)
    rw [cntF_succ, kvF] at h1
    rw [cntF_succ] at h2
    refine ⟨fun q => absurd q (nI_ge (b := 1024) (by omega) (by omega)), fun _ => ⟨vin_nI (by omega) (by omega), fun q => ?_, fun q => ⟨fun q2 => ?_, fun q2 => ?_⟩⟩⟩
    · rw [tn_nI (by omega), g1, nI_eq (by omega) (by omega)] at q
      rw [if_neg (by simp [q]), Nat.zero_add, if_neg (by simp [q])] at h1
      rw [if_neg (by simp [q]), Nat.zero_add] at h2
      show w_X4_often_49 post K (k + 1) M (nI l) (nI t) (nI v + 1)
      rw [nI_1]; exact ih (v + 1) l (by omega) hl h1 h2
    · rw [tn_nI (by omega), g1, nI_eq (by omega) (by omega)] at q
      have hl0 : l ≠ 0 := fun z => q2 (by rw [z]; rfl)
      rw [if_pos (by simp [q]), if_pos (by simp [q]), if_neg hl0] at h1
      rw [if_pos (by simp [q])] at h2
      show w_X4_often_49 post K (k + 1) M (nI l + (-1)) (nI t) (nI v + 1)
      rw [nI_1, nI_dec hl0]
      refine ih (v + 1) (l - 1) (by omega) (by omega) (fun z => h1 (by omega)) (fun z => ?_)
      have := h2 (by omega)
      rw [show l - (1 + cntF (fun v => decide (c v = t)) (v + 1) k) = l - 1 - cntF (fun v => decide (c v = t)) (v + 1) k by omega] at this
      exact this
    · rw [tn_nI (by omega), g1, nI_eq (by omega) (by omega)] at q
      have hl0 : l = 0 := by rw [show (0 : Int32) = nI 0 from rfl, nI_eq (by omega) (by omega)] at q2; exact q2
      rw [if_pos (by simp [q]), if_pos (by simp [q]), if_pos hl0] at h1
      exact h1 (by omega)
theorem lm_ofOut {c : Nat → Nat} {n : Nat} (hR : RelM M S) (hc : ∀ v, v < 1024 → mr M 18 v = nI (c v) ∧ c v ≤ 400) (h : ∀ M', RelM M' (enc S n).2 → post (enc S n).1 M') : ∀ t l, t ≤ 400 → l < 2147483648 → ofF c t l = n → w_X4_often_41 post (t + 1) M (nI l) (nI t) := by
  intro t
  induction t with
  | zero =>
    intro l ht hl hn
    have hn : 1024 = n := hn
    subst hn
    exact ⟨fun _ => pm_ans (k := 6) hR (by decide) (by decide) h, fun q => absurd (by decide) q⟩
  | succ t ih =>
    intro l ht hl hn
    rw [ofF] at hn
    refine ⟨fun q => absurd q (nI_ge (b := t + 1) (a := 0) (by omega) (by omega)), fun _ => ⟨1024 + 1, ?_⟩⟩
    refine lm_ofIn hc ht 1024 0 l (by omega) hl (fun z => ?_) (fun z => ?_)
    · have z2 : l < cnt c 0 1024 (t + 1) := z
      rw [if_pos z2] at hn
      rw [hn]
      have := kvF_lt 1024 0 l (by omega) z
      unfold enc at h
      rw [if_neg (by omega)] at h
      exact h M hR
    · have z2 : ¬ l < cnt c 0 1024 (t + 1) := z
      rw [if_neg z2] at hn
      rw [nI_dec (by omega)]
      exact ih _ (by omega) (by omega) hn
theorem dec_id {L x : Int32} {d : Nat} (h : L + nI d = x) : L + (-1) + nI (d + 1) = x := by
  rw [← nI_1, Int32.add_assoc, Int32.add_comm (nI d) 1, ← Int32.add_assoc (-1) 1, show (-1 : Int32) + 1 = 0 from rfl, Int32.zero_add]; exact h
theorem lm_ofInN {c : Nat → Nat} {t : Nat} {K : MS → Int32 → Int32 → Prop} (hx : x4 < 0) (hc : ∀ v, v < 1024 → mr M 18 v = nI (c v) ∧ c v ≤ 400) (ht : t ≤ 400) : ∀ k v L d, v + k = 1024 → L + nI d = x4 → d + k ≤ 1000000 → (∀ L' d', L' + nI d' = x4 → d' ≤ d + k → K M L' (nI t + (-1))) → w_X4_often_49 post K (k + 1) M L (nI t) (nI v) := by
  intro k
  induction k with
  | zero =>
    intro v L d hv hl hd h
    exact ⟨fun _ => h L d hl (by omega), fun q => absurd (nI_le (a := 1024) (by omega) (by omega)) q⟩
  | succ k ih =>
    intro v L d hv hl hd h
    refine ⟨fun q => absurd q (nI_ge (b := 1024) (by omega) (by omega)), fun _ => ⟨vin_nI (by omega) (by omega), fun q => ?_, fun q => ⟨fun q2 => ?_, fun q2 => ?_⟩⟩⟩
    · show w_X4_often_49 post K (k + 1) M L (nI t) (nI v + 1)
      rw [nI_1]; exact ih (v + 1) L d (by omega) hl (by omega) (fun L' d' h1 h2 => h L' d' h1 (by omega))
    · show w_X4_often_49 post K (k + 1) M (L + (-1)) (nI t) (nI v + 1)
      rw [nI_1]; exact ih (v + 1) _ (d + 1) (by omega) (dec_id hl) (by omega) (fun L' d' h1 h2 => h L' d' h1 (by omega))
    · rw [q2, Int32.zero_add] at hl
      rw [← hl] at hx
      exact absurd hx (nI_pos (by omega))
theorem lm_ofOutN {c : Nat → Nat} (hx : x4 < 0) (hR : RelM M S) (hc : ∀ v, v < 1024 → mr M 18 v = nI (c v) ∧ c v ≤ 400) (h : ∀ M', RelM M' (tl S 6).2 → post (tl S 6).1 M') : ∀ t L d, t ≤ 400 → L + nI d = x4 → d + 1024 * t ≤ 1000000 → w_X4_often_41 post (t + 1) M L (nI t) := by
  intro t
  induction t with
  | zero =>
    intro L d ht hl hd
    exact ⟨fun _ => pm_ans (k := 6) hR (by decide) (by decide) h, fun q => absurd (by decide) q⟩
  | succ t ih =>
    intro L d ht hl hd
    refine ⟨fun q => absurd q (nI_ge (b := t + 1) (a := 0) (by omega) (by omega)), fun _ => ⟨1024 + 1, ?_⟩⟩
    have hd2 : d + 1024 ≤ 1000000 := Nat.le_trans (Nat.add_le_add_left (Nat.le_mul_of_pos_right 1024 (Nat.succ_pos t)) d) hd
    refine lm_ofInN hx hc ht 1024 0 L d (by omega) hl hd2 (fun L' d' h1 h2 => ?_)
    rw [nI_dec (by omega)]
    exact ih L' d' (by omega) h1 (by omega)
theorem pm_often (hR : RelM M S) (h : ∀ M', RelM M' (sp_often S x1 x2 x3 x4).2 → post (sp_often S x1 x2 x3 x4).1 M') : w_X4_often post M x1 x2 x3 x4 := by
  unfold sp_often sp_span at h
  refine pm_atSpan hR (fun e => ⟨fun q => absurd q (ng_nn (fS_le S x1 x2 x3) e), fun _ => ?_⟩) (fun i j e ei ej hij hjl hL hv h0 => ⟨fun _ => ?_, fun q => absurd (by decide) q⟩)
  · rw [if_neg e] at h; exact pm_ans hR (fS_le S x1 x2 x3) e h
  · subst ei ej
    rw [if_pos e, sa_nI (by omega), sa_nI (by omega)] at h
    refine pm_count18 hR h0 hij hjl (fun M' hR' hs' hc => ⟨j - i + 1, ?_⟩)
    have hc2 : ∀ v, v < 1024 → mr M' 18 v = nI (cnt (sX S (vr S x1)) i (j - i) v) ∧ cnt (sX S (vr S x1)) i (j - i) v ≤ 400 := fun v hv => ⟨hc v hv, Nat.le_trans cnt_le (by omega)⟩
    rw [pk_sub hij]
    by_cases g : x4 < 0
    · rw [if_pos g] at h
      refine lm_ofOutN g hR' hc2 h (j - i) x4 0 (by omega) ?_ (by omega)
      show x4 + 0 = x4
      exact Int32.add_zero x4
    · rw [if_neg g] at h
      have h4 := tn_int g
      have hr := fb_rng x4
      have hsk := ofF_skip (c := cnt (sX S (vr S x1)) i (j - i)) (t := j - i) (fun v _ => cnt_le) (400 - (j - i)) x4.toNatClampNeg
      rw [show j - i + (400 - (j - i)) = 400 by omega] at hsk
      rw [hsk] at h
      obtain ⟨n, hn⟩ : ∃ n, ofF (cnt (sX S (vr S x1)) i (j - i)) (j - i) x4.toNatClampNeg = n := ⟨_, rfl⟩
      rw [hn] at h
      have := lm_ofOut (c := cnt (sX S (vr S x1)) i (j - i)) hR' hc2 h (j - i) x4.toNatClampNeg (by omega) (by omega) hn
      rw [nI_tn g] at this
      exact this
/-! differ, first -/
theorem pm_span2 {i j : Nat} (hR : RelM M S) (h0 : fL S x4 = 0) (hij : i ≤ j) (hj : j ≤ 400) (h : post (ng (if x5 < 0 then 1 else if (sL S (vr S x4) : Int) < x5.toInt + ((j : Int) - (i : Int)) then 1 else 0)) M) : w_X4_span post M x4 x5.toInt64 (x5.toInt64 + (nI j).toInt64 - (nI i).toInt64) := by
  have hr := fb_rng x5
  have a3 := (hR.at h0).2.2.2.1
  have ej : (nI j).toInt64.toInt = (j : Int) := by rw [Int32.toInt_toInt64, nI_toInt (by omega)]
  have ei : (nI i).toInt64.toInt = (i : Int) := by rw [Int32.toInt_toInt64, nI_toInt (by omega)]
  have e5 : x5.toInt64.toInt = x5.toInt := Int32.toInt_toInt64 x5
  have es : (x5.toInt64 + (nI j).toInt64 - (nI i).toInt64).toInt = x5.toInt + (j : Int) - (i : Int) := by
    have e1 : (x5.toInt64 + (nI j).toInt64).toInt = x5.toInt + (j : Int) := by rw [fb_addL (by rw [e5, ej]; omega) (by rw [e5, ej]; omega), e5, ej]
    rw [fb_subL (by rw [e1, ei]; omega) (by rw [e1, ei]; omega), e1, ei]
  unfold w_X4_span
  rw [lg_cmp_ge, lg_cmp_lt, ← l0, fa_wide_lt]
  refine ⟨fun q => ⟨fun q2 => ?_, fun q2 => pm_size hR h0 ?_⟩, fun q => absurd (by rw [fa_le64, es, e5]; omega) q⟩
  · rw [if_pos q2] at h; exact h
  · rw [if_neg q2] at h
    show (lg_cmp _ _ ≤ 0 → _) ∧ _
    rw [lg_cmp_le, fa_le64, es, Int32.toInt_toInt64, nI_toInt (by omega)]
    refine ⟨fun q3 => ?_, fun q3 => ?_⟩
    · rw [if_neg (by omega)] at h; exact h
    · rw [if_pos (by omega)] at h; exact h
theorem lm_differ {c d : Nat → Nat} {n : Nat} (hR : RelM M S) (hc : ∀ v, v < 1024 → mr M 18 v = nI (c v) ∧ c v ≤ 400) (hd : ∀ v, v < 1024 → mr M 19 v = nI (d v) ∧ d v ≤ 400) (hn : fstF (fun v => decide (c v ≠ d v)) 1024 = n) (h : ∀ M', RelM M' (enc S n).2 → post (enc S n).1 M') : ∀ k v, v + k = 1024 → (∀ u, u < v → decide (c u ≠ d u) = false) → w_X4_differ_120 post (k + 1) M (nI v) := by
  intro k
  induction k with
  | zero =>
    intro v hv hq
    have e : v = 1024 := by omega
    subst e
    rw [fst_no (fun u hu => hq u hu)] at hn
    subst hn
    exact ⟨fun _ => pm_ans (k := 6) hR (by decide) (by decide) h, fun q => absurd (nI_le (a := 1024) (by omega) (by omega)) q⟩
  | succ k ih =>
    intro v hv hq
    obtain ⟨g1, g2⟩ := hc v (by omega)
    obtain ⟨g3, g4⟩ := hd v (by omega)
    refine ⟨fun q => absurd q (nI_ge (b := 1024) (by omega) (by omega)), fun _ => ⟨vin_nI (by omega) (by omega), ?_⟩⟩
    rw [tn_nI (by omega), g1, g3, nI_eq (by omega) (by omega), nI_1]
    refine ⟨fun q => ih (v + 1) (by omega) (fun u hu => ?_), fun q => ?_⟩
    · by_cases e : u = v
      · subst e; simp [q]
      · exact hq u (by omega)
    · rw [fst_eq hq (by simp [q]) (by omega)] at hn
      subst hn
      unfold enc at h
      rw [if_neg (by omega)] at h
      exact h M hR
theorem pm_differ (hR : RelM M S) (h : ∀ M', RelM M' (sp_differ S x1 x2 x3 x4 x5).2 → post (sp_differ S x1 x2 x3 x4 x5).1 M') : w_X4_differ post M x1 x2 x3 x4 x5 := by
  unfold sp_differ at h
  have t74 : ∀ k, k ≠ 0 → k ≤ 6 → fD S x1 x2 x3 x4 x5 = k → w_X4_differ_74 post M x1 x2 x3 x4 x5 (ng k) := fun k hk hk6 e => by
    rw [e, if_neg hk] at h
    exact ⟨fun q => absurd q (ng_nn hk6 hk), fun _ => pm_ans hR hk6 hk h⟩
  have t23 : ∀ k, k ≠ 0 → k ≤ 6 → fD S x1 x2 x3 x4 x5 = k → w_X4_differ_23 post M x1 x2 x3 x4 x5 (ng k) := fun k hk hk6 e => ⟨fun q => absurd q (ng_nn hk6 hk), fun _ => ⟨fun q => absurd q (ng_nn hk6 hk), fun _ => t74 k hk hk6 e⟩⟩
  refine pm_look hR ?_
  show (0 ≤ ng (fL S x1) → _) ∧ _
  rw [(ng_lt _ (fL_le S x1)).2]
  refine ⟨fun e1 => pm_look hR ?_, fun e1 => t23 _ e1 (fL_le S x1) (by unfold fD; rw [if_neg e1])⟩
  show w_X4_differ_23 post M x1 x2 x3 x4 x5 (ng (fL S x4))
  by_cases e4 : fL S x4 = 0
  · rw [e4]
    refine ⟨fun _ => pm_span hR e1 ?_, fun q => absurd (by decide) q⟩
    show w_X4_differ_44 post M x1 x2 x3 x4 x5 (ng (fS S x1 x2 x3))
    have hD : fD S x1 x2 x3 x4 x5 = if fS S x1 x2 x3 = 0 then (if x5 < 0 then 1 else if (sL S (vr S x4) : Int) < x5.toInt + (x3.toInt - x2.toInt) then 1 else 0) else fS S x1 x2 x3 := by unfold fD; rw [if_pos e1, if_pos e4]
    by_cases e2 : fS S x1 x2 x3 = 0
    · rw [if_pos e2] at hD
      rw [e2]
      obtain ⟨f0, f1, f2, f3⟩ := fS_0 e2
      obtain ⟨hi, a1, a2, a3, a4, a5⟩ := hR.at e1
      obtain ⟨hi4, b1, b2, b3, b4, b5⟩ := hR.at e4
      obtain ⟨i, j, rfl, rfl, hij, hjl⟩ := span_nat a3 f1 f2 f3
      rw [nI_toInt (by omega), nI_toInt (by omega)] at hD
      refine ⟨fun _ => pm_span2 hR e4 hij (by omega) ?_, fun q => absurd (by decide) q⟩
      show w_X4_differ_74 post M x1 (nI i) (nI j) x4 x5 _
      rw [← hD]
      by_cases e5 : fD S x1 (nI i) (nI j) x4 x5 = 0
      · rw [if_pos e5, sa_nI (by omega), sa_nI (by omega)] at h
        rw [e5] at hD ⊢
        have g : ¬ x5 < 0 := fun q => by rw [if_pos q] at hD; omega
        have g2 : ¬ (sL S (vr S x4) : Int) < x5.toInt + ((j : Int) - (i : Int)) := fun q => by rw [if_neg g, if_pos q] at hD; omega
        have h5 := tn_int g
        have hc0 : sa x5 + (j - i) ≤ sL S (vr S x4) := by unfold sa; omega
        refine ⟨fun _ => pm_count18 hR e1 hij hjl (fun M1 hR1 hs1 hc => ?_), fun q => absurd (by decide) q⟩
        have ex5 : x5 = nI (sa x5) := (nI_tn g).symm
        have exx : x5 + nI j - nI i = nI (sa x5 + (j - i)) := by
          conv => lhs; rw [ex5]
          rw [nI_add, pk_sub (by omega)]; congr 1; omega
        have h19 : w_X4_count19 (fun C11 => ∃ n13, w_X4_differ_120 post n13 C11 0) M1 x4 (nI (sa x5)) (nI (sa x5 + (j - i))) := by
          refine pm_count19 hR1 e4 (by omega) hc0 (fun M2 hR2 hs2 hd => ⟨1024 + 1, ?_⟩)
          rw [show sa x5 + (j - i) - sa x5 = j - i by omega] at hd
          obtain ⟨n, hn⟩ : ∃ n, fstF (fun v => decide (cnt (sX S (vr S x1)) i (j - i) v ≠ cnt (sX S (vr S x4)) (sa x5) (j - i) v)) 1024 = n := ⟨_, rfl⟩
          rw [hn] at h
          exact lm_differ (c := cnt (sX S (vr S x1)) i (j - i)) (d := cnt (sX S (vr S x4)) (sa x5) (j - i)) hR2 (fun v hv => ⟨by rw [hs2.2 18 (by decide)]; exact hc v hv, Nat.le_trans cnt_le (by omega)⟩) (fun v hv => ⟨hd v hv, Nat.le_trans cnt_le (by omega)⟩) hn h 1024 0 (by omega) (fun u hu => by omega)
        rw [← exx, ← ex5] at h19
        exact h19
      · exact t74 _ e5 (fD_le S x1 (nI i) (nI j) x4 x5) rfl
    · rw [if_neg e2] at hD
      exact ⟨fun q => absurd q (ng_nn (fS_le S x1 x2 x3) e2), fun _ => t74 _ e2 (fS_le S x1 x2 x3) hD⟩
  · exact t23 _ e4 (fL_le S x4) (by unfold fD; rw [if_pos e1, if_neg e4])
theorem lm_first {n : Nat} (hR : RelM M S) (h1 : fL S x1 = 0) (h2 : fL S x2 = 0) (hn : apF S (vr S x1) (vr S x2) = n) (h : ∀ M', RelM M' (enc S n).2 → post (enc S n).1 M') : ∀ k i, i + k = min (sL S (vr S x1)) (sL S (vr S x2)) → (∀ m, m < i → decide (sX S (vr S x1) m ≠ sX S (vr S x2) m ∨ sW S (vr S x1) m ≠ sW S (vr S x2) m) = false) → w_X4_first_48 post (k + 1) M x1 x2 (nI (min (sL S (vr S x1)) (sL S (vr S x2)))) (nI i) := by
  obtain ⟨hi1, a1, a2, a3, a4, a5⟩ := hR.at h1
  obtain ⟨hi2, b1, b2, b3, b4, b5⟩ := hR.at h2
  intro k
  induction k with
  | zero =>
    intro i hi hq
    have ei : i = min (sL S (vr S x1)) (sL S (vr S x2)) := by omega
    rw [ei] at hq
    unfold apF at hn
    rw [fst_no hq] at hn
    refine ⟨fun _ => pm_size hR h1 (pm_size hR h2 ⟨fun q => ?_, fun q => ?_⟩), fun q => absurd (nI_le (by omega) (by omega)) q⟩
    · rw [nI_eq (by omega) (by omega)] at q
      rw [if_neg (fun z => q z.2)] at hn
      subst hn
      unfold enc at h
      rw [if_neg (by omega)] at h
      exact h M hR
    · rw [nI_eq (by omega) (by omega)] at q
      rw [if_pos ⟨rfl, q⟩] at hn
      subst hn
      exact pm_ans (k := 6) hR (by decide) (by decide) h
  | succ k ih =>
    intro i hi hq
    have x1lt := hR.inv.2.2.2.2.2.2.1 _ i a2 (by omega)
    have x2lt := hR.inv.2.2.2.2.2.2.1 _ i b2 (by omega)
    have stop : decide (sX S (vr S x1) i ≠ sX S (vr S x2) i ∨ sW S (vr S x1) i ≠ sW S (vr S x2) i) = true → post (nI i) M := fun z => by
      unfold apF at hn
      rw [fst_eq hq z (by omega)] at hn
      rw [if_neg (fun y => by omega)] at hn
      subst hn
      unfold enc at h
      rw [if_neg (by omega)] at h
      exact h M hR
    refine ⟨fun q => absurd q (nI_ge (by omega) (by omega)), fun _ => pm_val hR h1 (by omega) (pm_val hR h2 (by omega) ⟨fun q => ?_, fun q => pm_wt hR h1 (by omega) (pm_wt hR h2 (by omega) ⟨fun q2 => ?_, fun q2 => ?_⟩)⟩)⟩
    · rw [nI_eq (by omega) (by omega)] at q
      exact stop (by simp [q])
    · rw [nI_eq (by omega) (by omega)] at q
      rw [nI_1]
      refine ih (i + 1) (by omega) (fun m hm => ?_)
      by_cases e : m = i
      · subst e; simp [q, q2]
      · exact hq m (by omega)
    · exact stop (by simp [q2])
theorem pm_first (hR : RelM M S) (h : ∀ M', RelM M' (sp_first S x1 x2).2 → post (sp_first S x1 x2).1 M') : w_X4_first post M x1 x2 := by
  unfold sp_first at h
  refine pm_look hR ?_
  show (0 ≤ ng (fL S x1) → _) ∧ _
  rw [(ng_lt _ (fL_le S x1)).2]
  refine ⟨fun e1 => pm_look hR ?_, fun e1 => ?_⟩
  · show w_X4_first_19 post M x1 x2 (ng (fL S x2))
    have hQ : fQ S x1 x2 = fL S x2 := by unfold fQ; rw [if_pos e1]
    rw [hQ] at h
    by_cases e2 : fL S x2 = 0
    · rw [if_pos e2] at h
      rw [e2]
      obtain ⟨hi1, a1, a2, a3, a4, a5⟩ := hR.at e1
      obtain ⟨hi2, b1, b2, b3, b4, b5⟩ := hR.at e2
      refine ⟨fun _ => pm_size hR e1 (pm_size hR e2 ⟨min (sL S (vr S x1)) (sL S (vr S x2)) + 1, ?_⟩), fun q => absurd (by decide) q⟩
      have em : (if nI (sL S (vr S x2)) < nI (sL S (vr S x1)) then nI (sL S (vr S x2)) else nI (sL S (vr S x1))) = nI (min (sL S (vr S x1)) (sL S (vr S x2))) := by
        by_cases q : sL S (vr S x2) < sL S (vr S x1)
        · rw [if_pos (nI_lt q (by omega)), Nat.min_eq_right (by omega)]
        · rw [if_neg (nI_nlt (by omega) (by omega)), Nat.min_eq_left (by omega)]
      rw [em]
      obtain ⟨n, hn⟩ : ∃ n, apF S (vr S x1) (vr S x2) = n := ⟨_, rfl⟩
      rw [hn] at h
      exact lm_first hR e1 e2 hn h _ 0 (by omega) (fun m hm => by omega)
    · rw [if_neg e2] at h
      exact ⟨fun q => absurd q (ng_nn (fL_le S x2) e2), fun _ => pm_ans hR (fL_le S x2) e2 h⟩
  · have hQ : fQ S x1 x2 = fL S x1 := by unfold fQ; rw [if_neg e1]
    rw [hQ, if_neg e1] at h
    exact ⟨fun q => absurd q (ng_nn (fL_le S x1) e1), fun _ => pm_ans hR (fL_le S x1) e1 h⟩
end PME
