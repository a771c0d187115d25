theorem RelM.stored {M M' : MS} {S : Sh} (hR : RelM M S) (hs : SameY [] [11, 12] M M') {r k v : Nat} (hr : r < 12) (hk2 : 2 ≤ k) (hk : k ≤ 3) (hv : v < sV S) (h3 : k = 3 → ∀ i, i < sL S v → sX S v i < 256) (ho : ∀ p, (p < 400 * r ∨ 400 * r + sL S v ≤ p) → mr M' 11 p = mr M 11 p ∧ mr M' 12 p = mr M 12 p) (hin : ∀ m, m < sL S v → mr M' 11 (400 * r + m) = nI (sX S v m) ∧ mr M' 12 (400 * r + m) = sW S v m) : RelM (mru (mru M' 10 (upd (mr M' 10) r (nI (sL S v)))) 8 (upd (mr M' 8) r (nI k))) (putS S r k v) := by
  obtain ⟨hI, h0, h7, h14, he, hvv, hp, hs2, hf⟩ := hR
  show RM (mz M' 0) (mz M' 6) (mz M' 7) (mz M' 14) (mr M' 1) (mr M' 2) (mr M' 3) (mr M' 4) (mr M' 5) (upd (mr M' 8) r (nI k)) (mr M' 9) (upd (mr M' 10) r (nI (sL S v))) (mr M' 11) (mr M' 12) (mr M' 13) (mr M' 15) (putS S r k v)
  rw [hs.1 0 (by simp), hs.1 6 (by simp), hs.1 7 (by simp), hs.1 14 (by simp), hs.2 1 (by decide), hs.2 2 (by decide), hs.2 3 (by decide), hs.2 4 (by decide), hs.2 5 (by decide), hs.2 8 (by decide), hs.2 9 (by decide), hs.2 10 (by decide), hs.2 13 (by decide), hs.2 15 (by decide)]
  refine ⟨hI.put hk (fun _ => hv) h3, h0, h7, h14, he, hvv, fun i hi => ?_, hs2, hf⟩
  show upd (mr M 8) r (nI k) i = nI (va_up (sK S) r k i) ∧ (va_up (sK S) r k i = 1 → mr M 9 i = nI (va_up (sR S) r v i)) ∧ (2 ≤ va_up (sK S) r k i → upd (mr M 10) r (nI (sL S v)) i = nI (sL S (va_up (sR S) r v i)) ∧ ∀ m, m < sL S (va_up (sR S) r v i) → mr M' 11 (400 * i + m) = nI (sX S (va_up (sR S) r v i) m) ∧ mr M' 12 (400 * i + m) = sW S (va_up (sR S) r v i) m)
  by_cases e : i = r
  · subst e; rw [va_up_self, va_up_self, pk_us, pk_us]; exact ⟨rfl, fun q => by omega, fun _ => ⟨rfl, hin⟩⟩
  · rw [va_up_ne _ _ e, va_up_ne _ _ e, pk_un e, pk_un e]
    obtain ⟨p1, p2, p3⟩ := hp i hi
    refine ⟨p1, p2, fun q => ⟨(p3 q).1, fun m hm => ?_⟩⟩
    have hL := hI.2.2.2.2.1 _ ((hI.2.2.2.2.2.2.2.1 i hi).2.1 (by omega))
    have hL2 := hI.2.2.2.2.1 v hv
    have ho2 := ho (400 * i + m) (by omega)
    rw [ho2.1, ho2.2]; exact (p3 q).2 m hm
theorem RelM.take {M : MS} {S : Sh} (hR : RelM M S) {j : Nat} : RelM (mru M 8 (upd (mr M 8) j 0)) (putS S j 0 0) := by
  obtain ⟨hI, h0, h7, h14, he, hvv, hp, hs, hf⟩ := hR
  refine ⟨hI.put (by omega) (fun q => absurd rfl q) (fun q => by cases q), h0, h7, h14, he, hvv, fun i hi => ?_, hs, hf⟩
  show upd (mr M 8) j 0 i = nI (va_up (sK S) j 0 i) ∧ (va_up (sK S) j 0 i = 1 → mr M 9 i = nI (va_up (sR S) j 0 i)) ∧ (2 ≤ va_up (sK S) j 0 i → mr M 10 i = nI (sL S (va_up (sR S) j 0 i)) ∧ ∀ m, m < sL S (va_up (sR S) j 0 i) → mr M 11 (400 * i + m) = nI (sX S (va_up (sR S) j 0 i) m) ∧ mr M 12 (400 * i + m) = sW S (va_up (sR S) j 0 i) m)
  by_cases e : i = j
  · subst e; rw [va_up_self, va_up_self, pk_us]; exact ⟨rfl, fun q => by omega, fun q => by omega⟩
  · rw [va_up_ne _ _ e, va_up_ne _ _ e, pk_un e]; exact hp i hi
def bI (b : Bool) : Int32 := if b = true then 1 else 0
theorem bI_0 {b : Bool} : bI b = 0 ↔ b = false := by cases b <;> decide
section PMC
variable {post : Int32 → MS → Prop} {M M0 : MS} {S : Sh} {x1 x2 x3 x4 x5 : Int32}
theorem pm_step (hR : RelM M S) (h : ∀ M', RelM M' (sp_step S x1).2 → post (sp_step S x1).1 M') : w_X4_step post M x1 := by
  unfold sp_step at h
  have hz : mz M 14 = nI (sN S) := hR.2.2.2.1
  have hn := hR.inv.2.2.2.2.2.2.2.2
  refine ⟨fun q => ?_, fun q => ⟨fun q2 => ?_, fun q2 => ?_⟩⟩
  · rw [if_pos q] at h; exact pm_ans (k := 6) hR (by decide) (by decide) h
  · rw [hz] at q2; rw [if_neg q, if_pos q2] at h; exact pm_ans (k := 6) hR (by decide) (by decide) h
  · rw [hz] at q2
    rw [if_neg q, if_neg q2] at h
    have h1 := tn_int q
    rw [fa_le, nI_toInt (by omega)] at q2
    have hlt : x1.toNatClampNeg < sN S := by omega
    refine ⟨by rw [vp_in_iff]; omega, ?_⟩
    rw [hR.2.2.2.2.2.2.2.1 _ hlt]; exact h M hR
theorem pm_found (hR : RelM M S) (h : ∀ M', RelM M' (sp_found S x1).2 → post (sp_found S x1).1 M') : w_X4_found post M x1 := by
  unfold sp_found at h
  have e1 : (-1 : Int32) < x1 ↔ 0 ≤ x1 := by
    rw [fa_lt, fa_le, show (-1 : Int32).toInt = -1 from rfl, show (0 : Int32).toInt = 0 from rfl]; omega
  refine ⟨fun q => ?_, fun q => ⟨fun q2 => ?_, fun q2 => ?_⟩⟩
  · rw [if_pos (e1.mpr q)] at h; exact pm_ans (k := 1) hR (by decide) (by decide) h
  · rw [if_neg (fun z => q (e1.mp z)), if_pos q2] at h; exact pm_ans (k := 1) hR (by decide) (by decide) h
  · rw [if_neg (fun z => q (e1.mp z)), if_neg q2] at h
    rw [fa_le, show (0 : Int32).toInt = 0 from rfl] at q
    rw [fa_lt, show (-6 : Int32).toInt = -6 from rfl] at q2
    have hn := fb_negI (x := x1) (by omega)
    have h0 : ¬ -x1 < 0 := by rw [fa_lt, hn, show (0 : Int32).toInt = 0 from rfl]; omega
    have h1 := tn_int h0
    refine ⟨by rw [vp_in_iff, hn]; omega, ?_⟩
    rw [hR.2.2.2.2.2.2.2.2 _ (by omega)]; exact h M hR
theorem pm_take (hR : RelM M S) (h : ∀ M', RelM M' (sp_take S x1).2 → post (sp_take S x1).1 M') : w_X4_take post M x1 := by
  unfold sp_take at h
  refine pm_place (fun hi g0 g1 => ⟨fun _ => ⟨hi, ?_⟩, fun q => absurd q (by decide)⟩) (fun hb => ⟨fun q => absurd rfl q, fun _ => ?_⟩)
  · rw [if_neg (noP_f g0 g1)] at h; exact h _ hR.take
  · rw [if_pos (noP_t hb)] at h; exact pm_ans (k := 1) hR (by decide) (by decide) h
theorem pm_at (hR : RelM M S) (h : ∀ M', RelM M' (sp_at S x1 x2).2 → post (sp_at S x1 x2).1 M') : w_X4_at post M x1 x2 := by
  unfold sp_at at h
  refine pm_lookAt hR ?_
  show (0 ≤ ng (fI S x1 x2) → _) ∧ _
  rw [(ng_lt _ (fI_le S x1 x2)).2]
  refine ⟨fun e => ?_, fun e => ?_⟩
  · rw [if_pos e] at h
    obtain ⟨f0, f1, f2⟩ := fI_0 e
    obtain ⟨hi, a1, a2, a3, a4, a5⟩ := hR.at f0
    obtain ⟨j, rfl, hj⟩ := idx_nat a3 f1 f2
    rw [tn_nI (by omega)] at h
    exact pm_val hR f0 hj (h M hR)
  · rw [if_neg e] at h
    exact pm_ans hR (fI_le S x1 x2) e h
theorem pm_weight {post : Int64 → MS → Prop} (hR : RelM M S) (h : ∀ M', RelM M' (sp_weight S x1 x2).2 → post (sp_weight S x1 x2).1 M') : w_X4_weight post M x1 x2 := by
  unfold sp_weight at h
  refine pm_lookAt hR ?_
  show (0 ≤ ng (fI S x1 x2) → _) ∧ _
  rw [(ng_lt _ (fI_le S x1 x2)).2]
  refine ⟨fun e => ?_, fun e => ?_⟩
  · rw [if_pos e] at h
    obtain ⟨f0, f1, f2⟩ := fI_0 e
    obtain ⟨hi, a1, a2, a3, a4, a5⟩ := hR.at f0
    obtain ⟨j, rfl, hj⟩ := idx_nat a3 f1 f2
    rw [tn_nI (by omega)] at h
    exact pm_wt hR f0 hj (h M hR)
  · rw [if_neg e] at h
    exact pm_ans hR (fI_le S x1 x2) e h
theorem ng_nn {k : Nat} (hk : k ≤ 6) (h : ¬ k = 0) : ¬ 0 ≤ ng k := fun q => h ((ng_lt k hk).2.mp q)
/-- the answer where a finding or a wrong argument stands -/
theorem pm_two {k e : Nat} (hR : RelM M S) (hk : k ≤ 6) (he : e ≤ 6) (he0 : e ≠ 0) (h : ∀ M', RelM M' (tl S (if k = 0 then e else k)).2 → post (tl S (if k = 0 then e else k)).1 M') : ((0 ≤ ng k → w_X4_answer post M (ng e)) ∧ (¬ 0 ≤ ng k → w_X4_answer post M (ng k))) := by
  rw [(ng_lt _ hk).2]
  refine ⟨fun q => ?_, fun q => ?_⟩
  · rw [if_pos q] at h; exact pm_ans hR he he0 h
  · rw [if_neg q] at h; exact pm_ans hR hk q h
theorem pm_row (hR : RelM M S) (h : ∀ M', RelM M' (sp_row S x1 x2).2 → post (sp_row S x1 x2).1 M') : w_X4_row post M x1 x2 := by
  unfold sp_row at h
  refine pm_look hR ?_
  show (ng (fL S x1) < 0 → _) ∧ (¬ ng (fL S x1) < 0 → _)
  rw [(ng_lt _ (fL_le S x1)).1]
  refine ⟨fun e => ?_, fun e => ?_⟩
  · rw [if_neg e] at h
    exact pm_two (k := fL S x1) (e := 1) hR (fL_le S x1) (by decide) (by decide) (by rw [if_neg e]; exact h)
  · have e := Classical.not_not.mp e
    rw [if_pos e] at h
    obtain ⟨hi, a1, a2, a3, a4, a5⟩ := hR.at e
    obtain ⟨-, k1, -, k2⟩ := ki _ a4
    have hno : (∀ M', RelM M' (tl S 1).2 → post (tl S 1).1 M') → w_X4_row_19 post M (ng (fL S x1)) := fun h1 => pm_two (k := fL S x1) (e := 1) hR (fL_le S x1) (by decide) (by decide) (by rw [if_pos e]; exact h1)
    refine ⟨fun q => ?_, fun q => ⟨fun q2 => ?_, fun q2 => ?_⟩⟩
    · have n0 : ¬ x2 = 0 := fun z => by rw [z] at q; exact absurd q (by decide)
      have n1 : ¬ x2 = 1 := fun z => by rw [z] at q; exact absurd q (by decide)
      have n2 : ¬ x2 = 2 := fun z => by rw [z] at q; exact absurd q (by decide)
      rw [if_neg n0, if_neg n1, if_neg n2] at h
      exact hno h
    · refine ⟨fun n2 => ⟨fun n0 => ⟨fun n1 => ?_, fun n1 => ?_⟩, fun n0 => ⟨hi, ?_⟩⟩, fun n2 => ⟨hi, fun q3 => ?_, fun q3 => ?_⟩⟩
      · exfalso
        rw [fa_lt, show (0 : Int32).toInt = 0 from rfl] at q
        rw [fa_le, show (2 : Int32).toInt = 2 from rfl] at q2
        rw [fa_eq, show (0 : Int32).toInt = 0 from rfl] at n0
        rw [fa_eq, show (1 : Int32).toInt = 1 from rfl] at n1
        rw [fa_eq, show (2 : Int32).toInt = 2 from rfl] at n2
        omega
      · rw [if_neg n0, if_pos n1] at h
        exact pm_size hR e (h M hR)
      · rw [if_pos n0] at h
        rw [a1, k2 a5]; exact h M hR
      · subst n2
        rw [a1, k1] at q3
        rw [if_neg (by decide), if_neg (by decide), if_pos rfl, if_pos q3] at h
        refine ⟨fun _ => ⟨fun _ => ⟨hi, ?_⟩, fun z => absurd z (by decide)⟩, fun z => absurd z (by decide)⟩
        rw [(hR.2.2.2.2.2.2.1 _ (vin_tn hi).1).2.1 q3]; exact h M hR
      · subst n2
        rw [a1, k1] at q3
        rw [if_neg (by decide), if_neg (by decide), if_pos rfl, if_neg q3] at h
        exact pm_ans (k := 3) hR (by decide) (by decide) h
    · have n0 : ¬ x2 = 0 := fun z => by rw [z] at q2; exact absurd (by decide) q2
      have n1 : ¬ x2 = 1 := fun z => by rw [z] at q2; exact absurd (by decide) q2
      have n2 : ¬ x2 = 2 := fun z => by rw [z] at q2; exact absurd (by decide) q2
      rw [if_neg n0, if_neg n1, if_neg n2] at h
      exact hno h
theorem lm_store (hR : RelM M0 S) (h0 : fL S x1 = 0) (hi : vp_in x2 12) {k : Nat} (hk2 : 2 ≤ k) (hk : k ≤ 3) (h3 : k = 3 → ∀ i, i < sL S (vr S x1) → sX S (vr S x1) i < 256) (h : ∀ M', RelM M' (putS S x2.toNatClampNeg k (vr S x1)) → mr M' 8 x2.toNatClampNeg = nI k → post (nI (sL S (vr S x1))) M') : ∀ d i M, i + d = sL S (vr S x1) → SameY [] [11, 12] M0 M → (∀ p, (p < 400 * x2.toNatClampNeg ∨ 400 * x2.toNatClampNeg + i ≤ p) → mr M 11 p = mr M0 11 p ∧ mr M 12 p = mr M0 12 p) → (∀ m, m < i → mr M 11 (400 * x2.toNatClampNeg + m) = nI (sX S (vr S x1) m) ∧ mr M 12 (400 * x2.toNatClampNeg + m) = sW S (vr S x1) m) → w_X4_store_10 post (d + 1) M x1 x2 (nI k) (nI (sL S (vr S x1))) (nI i) := by
  obtain ⟨hi1, a1, a2, a3, a4, a5⟩ := hR.at h0
  obtain ⟨hj1, hn1⟩ := vin_tn hi1
  obtain ⟨hj, hn0⟩ := vin_tn hi
  intro d
  induction d with
  | zero =>
    intro i M hid hs ho hin
    have e : i = sL S (vr S x1) := by omega
    subst e
    refine ⟨fun _ => ⟨hi, h _ (hR.stored hs hj hk2 hk a2 h3 ho hin) ?_⟩, fun q => absurd (nI_le (by omega) (by omega)) q⟩
    show upd (mr M 8) _ (nI k) _ = nI k
    rw [pk_us]
  | succ d ih =>
    intro i M hid hs ho hin
    have hm := hs.mono (zs' := [0, 6, 7, 14]) (rs' := [11, 12]) (fun k h => by cases h) (fun k h => h)
    have hpos := ho (400 * x1.toNatClampNeg + i) (by omega)
    have ex : (400 : Int32) * x2 + nI i = nI (400 * x2.toNatClampNeg + i) := by
      rw [show (400 : Int32) = nI 400 from rfl]
      conv => lhs; rw [← nI_tn hn0]
      rw [pk_mul, nI_add]
    refine ⟨fun q => absurd q (nI_ge (by omega) (by omega)), fun _ => pm_valW hR hm h0 (by omega) hpos.1 (pm_wtW hR hm h0 (by omega) hpos.2 ?_)⟩
    show vp_in ((400 : Int32) * x2 + nI i) 4800 ∧ w_X4_store_10 post (d + 1) (mru (mru M 11 (upd (mr M 11) (Int32.toNatClampNeg ((400 : Int32) * x2 + nI i)) _)) 12 (upd (mr M 12) (Int32.toNatClampNeg ((400 : Int32) * x2 + nI i)) _)) x1 x2 (nI k) _ (nI i + 1)
    rw [ex, nI_1, tn_nI (by omega)]
    refine ⟨vin_nI (by omega) (by omega), ih (i + 1) _ (by omega) (hs.tr ((SameY.r (by decide)).tr (SameY.r (by decide)))) (fun p hp => ?_) (fun m hm => ?_)⟩
    · show upd (mr M 11) (400 * x2.toNatClampNeg + i) _ p = _ ∧ upd (mr M 12) (400 * x2.toNatClampNeg + i) _ p = _
      rw [pk_un (by omega), pk_un (by omega)]; exact ho p (by omega)
    · show upd (mr M 11) (400 * x2.toNatClampNeg + i) _ (400 * x2.toNatClampNeg + m) = _ ∧ upd (mr M 12) (400 * x2.toNatClampNeg + i) _ (400 * x2.toNatClampNeg + m) = _
      by_cases e : m = i
      · subst e; rw [pk_us, pk_us]; exact ⟨rfl, rfl⟩
      · rw [pk_un (by omega), pk_un (by omega)]; exact hin m (by omega)
theorem pm_store (hR : RelM M S) (h0 : fL S x1 = 0) (hi : vp_in x2 12) {k : Nat} (hk2 : 2 ≤ k) (hk : k ≤ 3) (h3 : k = 3 → ∀ i, i < sL S (vr S x1) → sX S (vr S x1) i < 256) (h : ∀ M', RelM M' (putS S x2.toNatClampNeg k (vr S x1)) → mr M' 8 x2.toNatClampNeg = nI k → post (nI (sL S (vr S x1))) M') : w_X4_store post M x1 x2 (nI k) :=
  pm_size hR h0 ⟨sL S (vr S x1) + 1, lm_store hR h0 hi hk2 hk h3 h (sL S (vr S x1)) 0 M (by omega) SameY.rf (fun p _ => ⟨rfl, rfl⟩) (fun m hm => by omega)⟩
theorem pm_put (hR : RelM M S) (h : ∀ M', RelM M' (sp_put S x1 x2).2 → post (sp_put S x1 x2).1 M') : w_X4_put post M x1 x2 := by
  unfold sp_put at h
  refine pm_look hR ?_
  show (ng (fL S x1) < 0 → _) ∧ (¬ ng (fL S x1) < 0 → _)
  rw [(ng_lt _ (fL_le S x1)).1]
  refine ⟨fun e => ?_, fun e => ?_⟩
  · rw [if_neg e] at h
    exact pm_two (k := fL S x1) (e := 1) hR (fL_le S x1) (by decide) (by decide) (by rw [if_neg e]; exact h)
  · have e := Classical.not_not.mp e
    rw [if_pos e] at h
    obtain ⟨hi, a1, a2, a3, a4, a5⟩ := hR.at e
    obtain ⟨-, k1, -, k2⟩ := ki _ a4
    refine pm_place (fun hj g0 g1 => ⟨fun _ => ⟨hi, fun q => ?_, fun q => ?_⟩, fun q => absurd q (by decide)⟩) (fun hb => ⟨fun q => absurd rfl q, fun _ => ?_⟩)
    · rw [if_neg (noP_f g0 g1)] at h
      rw [a1, k1] at q
      rw [a1]
      refine pm_store hR e hj (by omega) a4 (hR.inv.2.2.2.2.2.2.2.1 _ (vin_tn hi).1).2.2 (fun M' hR' h8 => ⟨hj, ?_⟩)
      rw [h8, k2 a5]; exact h M' hR'
    · rw [if_neg (noP_f g0 g1)] at h
      rw [a1, k1] at q
      rw [(hR.2.2.2.2.2.2.1 _ (vin_tn hi).1).2.1 q]
      rw [q] at h
      refine ⟨hj, hj, ?_⟩
      have e8 : mr (mru (mru M 8 (upd (mr M 8) x2.toNatClampNeg 1)) 9 (upd (mr M 9) x2.toNatClampNeg (nI (sR S x1.toNatClampNeg)))) 8 x2.toNatClampNeg = 1 := by
        show upd (mr M 8) x2.toNatClampNeg 1 x2.toNatClampNeg = 1
        rw [pk_us]
      rw [e8]
      exact h _ (hR.putV (j := x2.toNatClampNeg) a2)
    · rw [if_pos (noP_t hb)] at h
      exact pm_two (k := fL S x1) (e := 1) hR (fL_le S x1) (by decide) (by decide) (by rw [if_pos e]; exact h)
theorem lm_seal (hR : RelM M S) (h0 : fL S x1 = 0) (hx : ¬ x3 = 0) : ∀ d i b, i + d = sL S (vr S x1) → w_X4_seal_73 post M x1 x2 x3 (bI (fold (fun i r => r && decide (sX S (vr S x1) i < 256)) i d b)) → w_X4_seal_28 post (d + 1) M x1 x2 x3 (bI b) (nI i) := by
  obtain ⟨hi1, a1, a2, a3, a4, a5⟩ := hR.at h0
  intro d
  induction d with
  | zero =>
    intro i b hid h
    show w_X4_seal_28b post (w_X4_seal_28 post 0) M x1 x2 x3 (bI b) (nI i)
    unfold w_X4_seal_28b
    refine pm_size hR h0 ?_
    exact ⟨fun _ => h, fun q => absurd (nI_le (by omega) (by omega)) q⟩
  | succ d ih =>
    intro i b hid h
    rw [fold] at h
    have hxi := hR.inv.2.2.2.2.2.2.1 _ i a2 (by omega)
    show w_X4_seal_28b post (w_X4_seal_28 post (d + 1)) M x1 x2 x3 (bI b) (nI i)
    unfold w_X4_seal_28b
    refine pm_size hR h0 ?_
    refine ⟨fun q => absurd q (nI_ge (by omega) (by omega)), fun _ => ⟨fun q => absurd q hx, fun _ => ⟨fun q => ?_, fun q => pm_val hR h0 (by omega) ⟨fun q2 => ?_, fun q2 => ?_⟩⟩⟩⟩
    · rw [bI_0] at q
      subst q
      show w_X4_seal_28 post (d + 1) M x1 x2 x3 (bI false) (nI i + 1)
      rw [nI_1]; exact ih (i + 1) false (by omega) h
    · rw [show (256 : Int32) = nI 256 from rfl, nI_leI (by omega) (by omega)] at q2
      rw [decide_eq_false (by omega), Bool.and_false] at h
      show w_X4_seal_28 post (d + 1) M x1 x2 x3 (bI false) (nI i + 1)
      rw [nI_1]; exact ih (i + 1) false (by omega) h
    · rw [show (256 : Int32) = nI 256 from rfl, nI_leI (by omega) (by omega)] at q2
      have hb : b = true := by cases b with | true => rfl | false => exact absurd rfl q
      rw [decide_eq_true (by omega), Bool.and_true, hb] at h
      show w_X4_seal_28 post (d + 1) M x1 x2 x3 (bI true) (nI i + 1)
      rw [nI_1]; exact ih (i + 1) true (by omega) h
theorem pm_seal (hR : RelM M S) (h : ∀ M', RelM M' (sp_seal S x1 x2 x3).2 → post (sp_seal S x1 x2 x3).1 M') : w_X4_seal post M x1 x2 x3 := by
  unfold sp_seal at h
  refine pm_look hR ?_
  show (0 ≤ ng (fL S x1) → _) ∧ _
  rw [(ng_lt _ (fL_le S x1)).2]
  refine ⟨fun e => ?_, fun e => ?_⟩
  · rw [if_pos e] at h
    obtain ⟨hi, a1, a2, a3, a4, a5⟩ := hR.at e
    have hgo : ∀ b, w_X4_seal_73 post M x1 x2 x3 (bI (if x3 = 0 then b else fold (fun i r => r && decide (sX S (vr S x1) i < 256)) 0 (sL S (vr S x1)) b)) → ∃ n, w_X4_seal_28 post n M x1 x2 x3 (bI b) 0 := fun b h73 => by
      by_cases q : x3 = 0
      · rw [if_pos q] at h73
        refine ⟨1, ?_⟩
        show w_X4_seal_28b post (w_X4_seal_28 post 0) M x1 x2 x3 (bI b) 0
        unfold w_X4_seal_28b
        refine pm_size hR e ?_
        exact ⟨fun _ => h73, fun _ => ⟨fun _ => h73, fun z => absurd q z⟩⟩
      · rw [if_neg q] at h73
        exact ⟨sL S (vr S x1) + 1, lm_seal hR e q (sL S (vr S x1)) 0 b (by omega) h73⟩
    have hsm := small_iff (X := sX S (vr S x1)) (sL S (vr S x1)) 0 true
    refine pm_place (fun hj g0 g1 => hgo true ?_) (fun hb => hgo false ?_)
    · rw [if_neg (noP_f g0 g1)] at h
      by_cases q : x3 = 0
      · rw [if_pos q] at h ⊢
        exact ⟨fun _ => ⟨fun _ => pm_store (k := 2) hR e hj (by omega) (by omega) (fun z => by omega) (fun M' hR' _ => h M' hR'), fun z => absurd q z⟩, fun z => absurd z (by decide)⟩
      · rw [if_neg q] at h ⊢
        show w_X4_seal_73 post M x1 x2 x3 (bI (small S (vr S x1)))
        by_cases q2 : small S (vr S x1) = true
        · rw [if_pos q2] at h
          rw [q2]
          exact ⟨fun _ => ⟨fun z => absurd z q, fun _ => pm_store (k := 3) hR e hj (by omega) (by omega) (fun _ i hi2 => (hsm.mp q2).2 i (by omega) (by omega)) (fun M' hR' _ => h M' hR')⟩, fun z => absurd z (by decide)⟩
        · rw [if_neg q2] at h
          rw [Bool.not_eq_true] at q2
          rw [q2]
          exact ⟨fun z => absurd rfl z, fun _ => pm_ans (k := 1) hR (by decide) (by decide) h⟩
    · rw [if_pos (noP_t hb)] at h
      have hf : (if x3 = 0 then false else fold (fun i r => r && decide (sX S (vr S x1) i < 256)) 0 (sL S (vr S x1)) false) = false := by
        by_cases q : x3 = 0
        · rw [if_pos q]
        · rw [if_neg q]
          rw [← Bool.not_eq_true, small_iff]
          intro z; exact absurd z.1 (by decide)
      rw [hf]
      exact ⟨fun z => absurd rfl z, fun _ => pm_ans (k := 1) hR (by decide) (by decide) h⟩
  · rw [if_neg e] at h
    exact pm_ans hR (fL_le S x1) e h
end PMC
