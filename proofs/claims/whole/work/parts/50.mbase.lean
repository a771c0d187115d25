/-! ===== the reference: helpers ===== -/
def SameY (zs rs : List Nat) (M M' : MS) : Prop := (∀ k, k ∉ zs → mz M' k = mz M k) ∧ (∀ k, k ∉ rs → mr M' k = mr M k)
theorem SameY.rf {zs rs : List Nat} {M : MS} : SameY zs rs M M := ⟨fun _ _ => rfl, fun _ _ => rfl⟩
theorem SameY.tr {zs rs : List Nat} {M M1 M2 : MS} (h1 : SameY zs rs M M1) (h2 : SameY zs rs M1 M2) : SameY zs rs M M2 := ⟨fun k h => (h2.1 k h).trans (h1.1 k h), fun k h => (h2.2 k h).trans (h1.2 k h)⟩
theorem SameY.mono {zs rs zs' rs' : List Nat} {M M1 : MS} (h1 : SameY zs rs M M1) (hz : ∀ k, k ∈ zs → k ∈ zs') (hr : ∀ k, k ∈ rs → k ∈ rs') : SameY zs' rs' M M1 := ⟨fun k h => h1.1 k (fun q => h (hz k q)), fun k h => h1.2 k (fun q => h (hr k q))⟩
theorem SameY.r {zs rs : List Nat} {M : MS} {k : Nat} {g : Nat → Int32} (h : k ∈ rs) : SameY zs rs M (mru M k g) := ⟨fun _ _ => rfl, fun j hj => va_up_ne _ _ (fun e => hj (e ▸ h))⟩
theorem SameY.z {zs rs : List Nat} {M : MS} {k : Nat} {v : Int32} (h : k ∈ zs) : SameY zs rs M (mzu M k v) := ⟨fun j hj => va_up_ne _ _ (fun e => hj (e ▸ h)), fun _ _ => rfl⟩
theorem RelM.same {rs : List Nat} {M M' : MS} {S : Sh} (hR : RelM M S) (h : SameY [] rs M M') (h0 : 1 ∉ rs ∧ 2 ∉ rs ∧ 3 ∉ rs ∧ 4 ∉ rs ∧ 5 ∉ rs ∧ 8 ∉ rs ∧ 9 ∉ rs ∧ 10 ∉ rs ∧ 11 ∉ rs ∧ 12 ∉ rs ∧ 13 ∉ rs ∧ 15 ∉ rs) : RelM M' S := by
  obtain ⟨hz, hr⟩ := h
  obtain ⟨c1, c2, c3, c4, c5, c8, c9, c10, c11, c12, c13, c15⟩ := h0
  unfold RelM
  rw [hz 0 (by simp), hz 6 (by simp), hz 7 (by simp), hz 14 (by simp), hr 1 c1, hr 2 c2, hr 3 c3, hr 4 c4, hr 5 c5, hr 8 c8, hr 9 c9, hr 10 c10, hr 11 c11, hr 12 c12, hr 13 c13, hr 15 c15]
  exact hR
theorem ng_lt : ∀ k, k ≤ 6 → ((ng k < 0 ↔ k ≠ 0) ∧ (0 ≤ ng k ↔ k = 0)) := by decide +kernel
theorem RelM.inv {M : MS} {S : Sh} (hR : RelM M S) : InvS S := hR.1
theorem RelM.told {M : MS} {S : Sh} (hR : RelM M S) {k : Nat} (hk : k ≤ 6) : RelM (mru M 15 (upd (mr M 15) k (mr M 15 k + 1))) (tellS S k) := by
  obtain ⟨hI, h0, h7, h14, he, hv, hp, hs, hf⟩ := hR
  refine ⟨hI, h0, h7, h14, he, hv, hp, hs, fun i hi => ?_⟩
  show upd (mr M 15) k (mr M 15 k + 1) i = upd (sF S) k (sF S k + 1) i
  by_cases e : i = k
  · subst e; rw [pk_us, pk_us, hf i (by omega)]
  · rw [pk_un e, pk_un e, hf i hi]
theorem RelM.at {M : MS} {S : Sh} (hR : RelM M S) {x : Int32} (h : fL S x = 0) : vp_in x 12 ∧ mr M 8 x.toNatClampNeg = nI (sK S x.toNatClampNeg) ∧ vr S x < sV S ∧ sL S (vr S x) ≤ 400 ∧ sK S x.toNatClampNeg ≤ 3 ∧ sK S x.toNatClampNeg ≠ 0 := by
  obtain ⟨hi, hj, hk⟩ := fL_0 h
  have hI := hR.inv
  obtain ⟨q1, q2, q3⟩ := hI.2.2.2.2.2.2.2.1 _ hj
  exact ⟨hi, (hR.2.2.2.2.2.2.1 _ hj).1, q2 hk, hI.2.2.2.2.1 _ (q2 hk), q1, hk⟩
theorem ki : ∀ k, k ≤ 3 → ((nI k = 0 ↔ k = 0) ∧ (nI k = 1 ↔ k = 1) ∧ (nI k = 3 ↔ k = 3) ∧ (k ≠ 0 → nI k - 1 = nI (k - 1))) := by decide +kernel
section PM
variable {post : Int32 → MS → Prop} {M M0 : MS} {S : Sh} {x y z : Int32}
theorem pm_ans {k : Nat} (hR : RelM M S) (hk : k ≤ 6) (h0 : k ≠ 0) (h : ∀ M', RelM M' (tellS S k) → post (ng k) M') : w_X4_answer post M (ng k) := by
  obtain ⟨-, -, e3, e4, e5, -⟩ := ng_in k hk h0
  refine ⟨fun q => absurd q e5, fun _ => ⟨e3, ?_⟩⟩
  rw [e4]
  exact h _ (hR.told hk)
theorem pm_place (ht : vp_in x 12 → ¬ x < 0 → ¬ (12 : Int32) ≤ x → post 1 M) (hf : (x < 0 ∨ (12 : Int32) ≤ x) → post 0 M) : w_X4_isPlace post M x :=
  ⟨fun h0 => hf (Or.inl h0), fun h0 => ⟨fun h1 => hf (Or.inr h1), fun h1 => ht (vin rfl h0 h1) h0 h1⟩⟩
theorem pm_isV (hR : RelM M S) (ht : ¬ x < 0 → ¬ nI (sV S) ≤ x → post 1 M) (hf : (x < 0 ∨ nI (sV S) ≤ x) → post 0 M) : w_X4_isVersion post M x := by
  have hz := hR.2.1
  unfold w_X4_isVersion
  rw [hz]
  exact ⟨fun h0 => hf (Or.inl h0), fun h0 => ⟨fun h1 => hf (Or.inr h1), fun h1 => ht h0 h1⟩⟩
theorem pm_look (hR : RelM M S) (h : post (ng (fL S x)) M) : w_X4_look post M x := by
  refine pm_place (fun hi h0 h1 => ⟨fun _ => ⟨hi, ?_⟩, fun q => absurd q (by decide)⟩) (fun hb => ⟨fun q => absurd rfl q, fun _ => ?_⟩)
  · unfold fL at h
    rw [if_neg h0, if_neg h1] at h
    have hj := (vin_tn hi).1
    have a1 := (hR.2.2.2.2.2.2.1 _ hj).1
    have k1 := (ki _ (hR.inv.2.2.2.2.2.2.2.1 _ hj).1).1
    rw [a1, k1]
    by_cases hk : sK S x.toNatClampNeg = 0
    · rw [if_pos hk] at h
      exact ⟨fun q => absurd hk q, fun _ => h⟩
    · rw [if_neg hk] at h
      exact ⟨fun _ => h, fun q => absurd q hk⟩
  · unfold fL at h
    rcases hb with h0 | h1
    · rw [if_pos h0] at h; exact h
    · by_cases h0 : x < 0
      · rw [if_pos h0] at h; exact h
      · rw [if_neg h0, if_pos h1] at h; exact h
theorem pm_size (hR : RelM M S) (h0 : fL S x = 0) (h : post (nI (sL S (vr S x))) M) : w_X4_size post M x := by
  obtain ⟨hi, a1, a2, a3, a4, a5⟩ := hR.at h0
  obtain ⟨-, k1, -⟩ := ki _ a4
  obtain ⟨b1, b2, b3⟩ := hR.2.2.2.2.2.2.1 _ (vin_tn hi).1
  have hI := hR.inv
  refine ⟨hi, fun q => ?_, fun q => ?_⟩
  · rw [a1, k1] at q
    rw [(b3 (by omega)).1]; exact h
  · rw [a1, k1] at q
    have hn := hI.2.1
    rw [b2 q, tn_nI (by show vr S x < _; omega)]
    exact ⟨vin_nI (by show vr S x < _; omega) (by omega), by show post (mr M 2 (vr S x)) M; rw [(hR.2.2.2.2.2.1 _ a2).1]; exact h⟩
/-- reading a place's row, where two arrays may have been written elsewhere -/
theorem pm_valW (hR : RelM M0 S) (hs : SameY [0, 6, 7, 14] [11, 12] M0 M) (h0 : fL S x = 0) {t : Nat} (ht : t < sL S (vr S x)) (h11 : mr M 11 (400 * x.toNatClampNeg + t) = mr M0 11 (400 * x.toNatClampNeg + t)) (h : post (nI (sX S (vr S x) t)) M) : w_X4_valueAt post M x (nI t) := by
  obtain ⟨hi, a1, a2, a3, a4, a5⟩ := hR.at h0
  obtain ⟨-, k1, -⟩ := ki _ a4
  obtain ⟨hj, hn0⟩ := vin_tn hi
  obtain ⟨b1, b2, b3⟩ := hR.2.2.2.2.2.2.1 _ hj
  have hI := hR.inv
  obtain ⟨en, fr, e1, e2, e3⟩ := hR.2.2.2.2.1
  have hn := hI.2.1
  refine ⟨hi, fun q => ?_, fun q => ?_⟩
  · rw [hs.2 8 (by decide), a1, k1] at q
    have ex : (400 : Int32) * x + nI t = nI (400 * x.toNatClampNeg + t) := by
      rw [show (400 : Int32) = nI 400 from rfl]
      conv => lhs; rw [← nI_tn hn0]
      rw [pk_mul, nI_add]
    rw [ex, tn_nI (by omega), h11, ((b3 (by omega)).2 t ht).1]
    exact ⟨vin_nI (by omega) (by omega), h⟩
  · rw [hs.2 8 (by decide), a1, k1] at q
    obtain ⟨c1, c2, c3⟩ := e3 _ a2
    rw [hs.2 9 (by decide), hs.2 1 (by decide), hs.2 4 (by decide), b2 q, tn_nI (by show vr S x < _; omega)]
    have c1 : mr M0 1 (sR S x.toNatClampNeg) = nI (fr (vr S x)) := c1
    have hb : fr (vr S x) + t < 200000 := by omega
    rw [c1, nI_add, tn_nI (by omega), (c3 t ht).1]
    exact ⟨vin_nI (by show vr S x < _; omega) (by omega), vin_nI hb (by omega), h⟩
theorem pm_wtW (hR : RelM M0 S) (hs : SameY [0, 6, 7, 14] [11, 12] M0 M) (h0 : fL S x = 0) {t : Nat} (ht : t < sL S (vr S x)) (h12 : mr M 12 (400 * x.toNatClampNeg + t) = mr M0 12 (400 * x.toNatClampNeg + t)) (h : post (sW S (vr S x) t) M) : w_X4_weightAt post M x (nI t) := by
  obtain ⟨hi, a1, a2, a3, a4, a5⟩ := hR.at h0
  obtain ⟨-, k1, -⟩ := ki _ a4
  obtain ⟨hj, hn0⟩ := vin_tn hi
  obtain ⟨b1, b2, b3⟩ := hR.2.2.2.2.2.2.1 _ hj
  have hI := hR.inv
  obtain ⟨en, fr, e1, e2, e3⟩ := hR.2.2.2.2.1
  have hn := hI.2.1
  refine ⟨hi, fun q => ?_, fun q => ?_⟩
  · rw [hs.2 8 (by decide), a1, k1] at q
    have ex : (400 : Int32) * x + nI t = nI (400 * x.toNatClampNeg + t) := by
      rw [show (400 : Int32) = nI 400 from rfl]
      conv => lhs; rw [← nI_tn hn0]
      rw [pk_mul, nI_add]
    rw [ex, tn_nI (by omega), h12, ((b3 (by omega)).2 t ht).2]
    exact ⟨vin_nI (by omega) (by omega), h⟩
  · rw [hs.2 8 (by decide), a1, k1] at q
    obtain ⟨c1, c2, c3⟩ := e3 _ a2
    rw [hs.2 9 (by decide), hs.2 1 (by decide), hs.2 5 (by decide), b2 q, tn_nI (by show vr S x < _; omega)]
    have c1 : mr M0 1 (sR S x.toNatClampNeg) = nI (fr (vr S x)) := c1
    have hb : fr (vr S x) + t < 200000 := by omega
    rw [c1, nI_add, tn_nI (by omega), (c3 t ht).2]
    exact ⟨vin_nI (by show vr S x < _; omega) (by omega), vin_nI hb (by omega), h⟩
theorem pm_val (hR : RelM M S) (h0 : fL S x = 0) {t : Nat} (ht : t < sL S (vr S x)) (h : post (nI (sX S (vr S x) t)) M) : w_X4_valueAt post M x (nI t) := pm_valW hR SameY.rf h0 ht rfl h
theorem pm_wt (hR : RelM M S) (h0 : fL S x = 0) {t : Nat} (ht : t < sL S (vr S x)) (h : post (sW S (vr S x) t) M) : w_X4_weightAt post M x (nI t) := pm_wtW hR SameY.rf h0 ht rfl h
theorem l0 : (Int32.toInt64 0) = (0 : Int64) := rfl
theorem pm_span (hR : RelM M S) (h0 : fL S x = 0) (h : post (ng (fS S x y z)) M) : w_X4_span post M x y.toInt64 z.toInt64 := by
  unfold fS at h
  rw [if_pos h0] at h
  unfold w_X4_span
  rw [lg_cmp_ge, lg_cmp_lt, ← l0, fa_wide_le, fa_wide_lt]
  refine ⟨fun q => ⟨fun q2 => ?_, fun q2 => pm_size hR h0 ?_⟩, fun q => ?_⟩
  · rw [if_neg (Int32.not_lt.mpr q), if_pos q2] at h; exact h
  · rw [if_neg (Int32.not_lt.mpr q), if_neg q2] at h
    show (lg_cmp _ _ ≤ 0 → _) ∧ _
    rw [lg_cmp_le, fa_wide_le]
    refine ⟨fun q3 => ?_, fun q3 => ?_⟩
    · rw [if_neg (Int32.not_lt.mpr q3)] at h; exact h
    · rw [if_pos (Int32.not_le.mp q3)] at h; exact h
  · rw [if_pos (Int32.not_le.mp q)] at h; exact h
theorem pm_lookSpan (hR : RelM M S) (h : post (ng (fS S x y z)) M) : w_X4_lookSpan post M x y z := by
  refine pm_look hR ?_
  show (0 ≤ ng (fL S x) → _) ∧ _
  rw [(ng_lt _ (fL_le S x)).2]
  refine ⟨fun e => pm_span hR e h, fun e => ?_⟩
  unfold fS at h
  rw [if_neg e] at h; exact h
theorem pm_lookAt (hR : RelM M S) (h : post (ng (fI S x y)) M) : w_X4_lookAt post M x y := by
  refine pm_look hR ?_
  show (0 ≤ ng (fL S x) → _) ∧ _
  rw [(ng_lt _ (fL_le S x)).2]
  unfold fI at h
  refine ⟨fun e => ?_, fun e => ?_⟩
  · rw [if_pos e] at h
    refine ⟨fun q => ?_, fun q => pm_size hR e ⟨fun q2 => ?_, fun q2 => ?_⟩⟩
    · rw [if_pos q] at h; exact h
    · rw [if_neg q, if_neg (Int32.not_le.mpr q2)] at h; exact h
    · rw [if_neg q, if_pos (Int32.not_lt.mp q2)] at h; exact h
  · rw [if_neg e] at h; exact h
theorem pm_bits (hR : RelM M S) (h0 : fL S x = 0) (h : post (nI (tp S x + 1)) M) : w_X4_bits post M x := by
  obtain ⟨hi, a1, a2, a3, a4, a5⟩ := hR.at h0
  obtain ⟨-, -, k3, -⟩ := ki _ a4
  unfold tp at h
  refine ⟨hi, ?_⟩
  rw [a1, k3]
  refine ⟨fun q => ?_, fun q => ?_⟩
  · rw [if_neg q] at h; exact h
  · rw [if_pos q] at h; exact h
theorem pm_lookPlane (hR : RelM M S) (h : post (ng (fP S x y)) M) : w_X4_lookPlane post M x y := by
  refine pm_look hR ?_
  show (0 ≤ ng (fL S x) → _) ∧ _
  rw [(ng_lt _ (fL_le S x)).2]
  unfold fP at h
  refine ⟨fun e => ?_, fun e => ?_⟩
  · rw [if_pos e] at h
    obtain ⟨hi, a1, a2, a3, a4, a5⟩ := hR.at e
    obtain ⟨-, k1, -⟩ := ki _ a4
    refine ⟨hi, ?_⟩
    rw [a1, k1]
    have htp := tp_le S x
    have e10 : ∀ y : Int32, y < nI (tp S x + 1) ↔ ¬ nI (tp S x) < y := fun y => by
      rw [fa_lt, fa_lt, nI_toInt (by omega), nI_toInt (by omega)]; omega
    refine ⟨fun q => ⟨fun q2 => ?_, fun q2 => pm_bits hR e ?_⟩, fun q => ?_⟩
    · rw [if_neg q, if_pos q2] at h; exact h
    · rw [if_neg q, if_neg q2] at h
      show (y < nI (tp S x + 1) → _) ∧ _
      rw [e10]
      refine ⟨fun q3 => ?_, fun q3 => ?_⟩
      · rw [if_neg q3] at h; exact h
      · rw [if_pos (Classical.not_not.mp q3)] at h; exact h
    · rw [if_pos q] at h; exact h
  · rw [if_neg e] at h; exact h
end PM
