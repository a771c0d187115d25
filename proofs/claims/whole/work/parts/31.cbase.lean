/-! ===== the class: helpers ===== -/
def SameX (zs rs : List Nat) (C C' : CS) : Prop := (∀ k, k ∉ zs → cz C' k = cz C k) ∧ (∀ k, k ∉ rs → cr C' k = cr C k) ∧ C'.2.2 = C.2.2
theorem SameX.rf {zs rs : List Nat} {C : CS} : SameX zs rs C C := ⟨fun _ _ => rfl, fun _ _ => rfl, rfl⟩
theorem SameX.tr {zs rs : List Nat} {C C1 C2 : CS} (h1 : SameX zs rs C C1) (h2 : SameX zs rs C1 C2) : SameX zs rs C C2 := ⟨fun k h => (h2.1 k h).trans (h1.1 k h), fun k h => (h2.2.1 k h).trans (h1.2.1 k h), h2.2.2.trans h1.2.2⟩
theorem SameX.mono {zs rs zs' rs' : List Nat} {C C1 : CS} (h1 : SameX zs rs C C1) (hz : ∀ k, k ∈ zs → k ∈ zs') (hr : ∀ k, k ∈ rs → k ∈ rs') : SameX zs' rs' C C1 := ⟨fun k h => h1.1 k (fun q => h (hz k q)), fun k h => h1.2.1 k (fun q => h (hr k q)), h1.2.2⟩
theorem SameX.r {zs rs : List Nat} {C : CS} {k : Nat} {g : Nat → Int32} (h : k ∈ rs) : SameX zs rs C (cru C k g) := ⟨fun _ _ => rfl, fun j hj => va_up_ne _ _ (fun e => hj (e ▸ h)), rfl⟩
theorem SameX.z {zs rs : List Nat} {C : CS} {k : Nat} {v : Int32} (h : k ∈ zs) : SameX zs rs C (czu C k v) := ⟨fun j hj => va_up_ne _ _ (fun e => hj (e ▸ h)), fun _ _ => rfl, rfl⟩
theorem RelC.same {zs rs : List Nat} {C C' : CS} {S : Sh} (hR : RelC C S) (h : SameX zs rs C C') (h0 : 0 ∉ zs ∧ 1 ∉ zs ∧ 2 ∉ zs ∧ 3 ∉ rs ∧ 15 ∉ rs ∧ 16 ∉ rs) : RelC C' S := by
  obtain ⟨hz, hr, he⟩ := h
  unfold RelC
  rw [hz 0 h0.1, hz 1 h0.2.1, hz 2 h0.2.2.1, hr 3 h0.2.2.2.1, hr 15 h0.2.2.2.2.1, hr 16 h0.2.2.2.2.2]
  unfold co cn cf cp ck cv cw
  rw [he]
  exact hR
theorem kd : ∀ k, k ≤ 3 → k ≠ 0 → ((nI (k - 1) = 0 ↔ k = 1) ∧ (nI (k - 1) = 2 ↔ k = 3)) := by decide +kernel
theorem RelC.inv {C : CS} {S : Sh} (hR : RelC C S) : InvS S := hR.1
theorem RelC.n {C : CS} {S : Sh} (hR : RelC C S) : cn C = sV S := hR.2.1
theorem RelC.ver {C : CS} {S : Sh} (hR : RelC C S) {v : Nat} (hv : v < sV S) : cf C v 0 = nI v ∧ cp C v = (if v = 0 then none else some (sP S v)) ∧ cf C v 3 = nI (sL S v) ∧ cf C v 6 = frk S v ∧ cf C v 7 = nI (dep S v) ∧ cf C v 8 = nI (chl S v) ∧ sL S v ≤ 400 := by
  obtain ⟨hI, hn, hz0, hz1, hz2, hsh, hhi, ho1, ho2, hst, hfo, ke, hV⟩ := hR
  obtain ⟨a0, a1, a2, a3, a6, a7, a8, -⟩ := hV v (by rw [hn]; exact hv)
  exact ⟨a0, a1, a3, a6, a7, a8, hI.2.2.2.2.1 v hv⟩
theorem RelC.at {C : CS} {S : Sh} (hR : RelC C S) {x : Int32} (h : fL S x = 0) : vp_in x 12 ∧ co C 2 x.toNatClampNeg = some (vr S x) ∧ cr C 3 x.toNatClampNeg = nI (sK S x.toNatClampNeg - 1) ∧ vr S x < sV S ∧ vr S x < cn C ∧ cf C (vr S x) 3 = nI (sL S (vr S x)) ∧ sL S (vr S x) ≤ 400 ∧ sK S x.toNatClampNeg ≤ 3 ∧ sK S x.toNatClampNeg ≠ 0 := by
  obtain ⟨hi, hj, hk⟩ := fL_0 h
  have hI := hR.inv
  obtain ⟨q1, q2, q3⟩ := hI.2.2.2.2.2.2.2.1 _ hj
  obtain ⟨a1, a2⟩ := (hR.2.2.2.2.2.1 _ hj).2 hk
  have hv := q2 hk
  obtain ⟨b0, b1, b3, b4, b5, b6, b7⟩ := hR.ver hv
  exact ⟨hi, a1, a2, hv, by rw [hR.n]; exact hv, b3, b7, q1, hk⟩
theorem RelC.told {C : CS} {S : Sh} (hR : RelC C S) {k : Nat} (hk : k ≤ 6) : RelC (cru C 16 (upd (cr C 16) k (cr C 16 k + 1))) (tellS S k) := by
  obtain ⟨hI, hn, hz0, hz1, hz2, hsh, hhi, ho1, ho2, hst, hfo, ke, hV⟩ := hR
  refine ⟨hI, hn, hz0, hz1, hz2, hsh, hhi, ho1, ho2, hst, fun i hi => ?_, ke, hV⟩
  show upd (cr C 16) k (cr C 16 k + 1) i = upd (sF S) k (sF S k + 1) i
  by_cases e : i = k
  · subst e; rw [pk_us, pk_us, hfo i (by omega)]
  · rw [pk_un e, pk_un e, hfo i hi]
section PC
variable {post : Int32 → CS → Prop} {C : CS} {S : Sh} {x y z : Int32}
theorem pc_told {k : Nat} (hR : RelC C S) (hk : k ≤ 6) (h0 : k ≠ 0) (h : ∀ C', RelC C' (tellS S k) → post (ng k) C') : w_X3_told post C (ng k) := by
  obtain ⟨e1, e2, e3, e4, -⟩ := ng_in k hk h0
  refine ⟨fun q => absurd q e1, fun _ => ⟨fun q => absurd q e2, fun _ => ⟨e3, ?_⟩⟩⟩
  rw [e4]
  exact h _ (hR.told hk)
theorem pc_place (ht : vp_in x 12 → ¬ x < 0 → ¬ (12 : Int32) ≤ x → post 1 C) (hf : (x < 0 ∨ (12 : Int32) ≤ x) → post 0 C) : w_X3_isShelfPlace post C x :=
  ⟨fun h0 => hf (Or.inl h0), fun h0 => ⟨fun h1 => hf (Or.inr h1), fun h1 => ht (vin rfl h0 h1) h0 h1⟩⟩
theorem pc_value (ht : ¬ x < 0 → ¬ (1023 : Int32) < x → post 1 C) (hf : (x < 0 ∨ (1023 : Int32) < x) → post 0 C) : w_X3_isValue post C x :=
  ⟨fun h0 => hf (Or.inl h0), fun h0 => ⟨fun h1 => hf (Or.inr h1), fun h1 => ht h0 h1⟩⟩
theorem pc_isV (hR : RelC C S) (ht : ¬ x < 0 → ¬ nI (sV S) ≤ x → post 1 C) (hf : (x < 0 ∨ nI (sV S) ≤ x) → post 0 C) : w_X3_isVersion post C x := by
  have hz := hR.2.2.1
  unfold w_X3_isVersion
  rw [hz]
  exact ⟨fun h0 => hf (Or.inl h0), fun h0 => ⟨fun h1 => hf (Or.inr h1), fun h1 => ht h0 h1⟩⟩
theorem pc_findP (hR : RelC C S) (h : post (ng (fL S x)) C) : w_X3_findingOfPlace post C x := by
  refine pc_place (fun hi h0 h1 => ⟨fun _ => ⟨hi, fun w hw => ?_⟩, fun q => absurd q (by decide)⟩) (fun hb => ⟨fun q => absurd rfl q, fun _ => ?_⟩)
  · unfold fL at h
    rw [if_neg h0, if_neg h1] at h
    obtain ⟨a1, a2⟩ := hR.2.2.2.2.2.1 _ (vin_tn hi).1
    by_cases hk : sK S x.toNatClampNeg = 0
    · rw [if_pos hk] at h
      exact ⟨fun q => absurd (hw.trans (a1 hk)) q, fun _ => h⟩
    · rw [if_neg hk] at h
      exact ⟨fun _ => h, fun q => by rw [hw, (a2 hk).1] at q; cases q⟩
  · unfold fL at h
    rcases hb with h0 | h1
    · rw [if_pos h0] at h; exact h
    · by_cases h0 : x < 0
      · rw [if_pos h0] at h; exact h
      · rw [if_neg h0, if_pos h1] at h; exact h
theorem pc_findG (hR : RelC C S) (h : post (ng (fG S x)) C) : w_X3_findingOfGrown post C x := by
  refine pc_findP hR ⟨fun e => ?_, fun e => ?_⟩
  · have e := (ng_ne _ (fL_le S x)).mp e
    obtain ⟨hi, a1, a2, a3, a4, a5, a6, a7, a8⟩ := hR.at e
    obtain ⟨k1, -⟩ := kd _ a7 a8
    unfold fG at h
    rw [if_pos e] at h
    refine ⟨hi, fun hc => ?_, fun hc => ?_⟩
    · rw [if_neg (fun q => hc (by rw [a2]; exact k1.mpr q))] at h; exact h
    · rw [if_pos (k1.mp (by rw [← a2]; exact hc))] at h; exact h
  · unfold fG at h
    rw [if_neg (fun q => e (by rw [q]; rfl))] at h; exact h
theorem pc_findI (hR : RelC C S) (h : post (ng (fI S x y)) C) : w_X3_findingOfIndex post C x y := by
  refine pc_findP hR ⟨fun e => ?_, fun e => ?_⟩
  · have e := (ng_ne _ (fL_le S x)).mp e
    obtain ⟨hi, a1, a2, a3, a4, a5, a6, a7, a8⟩ := hR.at e
    unfold fI at h
    rw [if_pos e] at h
    refine ⟨fun hc => ?_, fun hc => ⟨hi, fun w hw => ⟨_, hw.trans a1, a4, fun hd => ?_, fun hd => ?_⟩⟩⟩
    · rw [if_pos hc] at h; exact h
    · rw [a5] at hd
      rw [if_neg hc, if_neg (fun q => absurd hd (Int32.not_lt.mpr q))] at h; exact h
    · rw [a5] at hd
      rw [if_neg hc, if_pos (Int32.not_lt.mp hd)] at h; exact h
  · unfold fI at h
    rw [if_neg (fun q => e (by rw [q]; rfl))] at h; exact h
theorem pc_findS (hR : RelC C S) (h : post (ng (fS S x y z)) C) : w_X3_findingOfSpan post C x y z := by
  refine pc_findP hR ⟨fun e => ?_, fun e => ?_⟩
  · have e := (ng_ne _ (fL_le S x)).mp e
    obtain ⟨hi, a1, a2, a3, a4, a5, a6, a7, a8⟩ := hR.at e
    unfold fS at h
    rw [if_pos e] at h
    refine ⟨fun hb => ⟨fun hc => ?_, fun hc => ⟨hi, fun w hw => ⟨_, hw.trans a1, a4, fun hd => ?_, fun hd => ?_⟩⟩⟩, fun hb => ?_⟩
    · rw [if_neg (Int32.not_lt.mpr hb), if_pos hc] at h; exact h
    · rw [a5] at hd
      rw [if_neg (Int32.not_lt.mpr hb), if_neg hc, if_neg (Int32.not_lt.mpr hd)] at h; exact h
    · rw [a5] at hd
      rw [if_neg (Int32.not_lt.mpr hb), if_neg hc, if_pos (Int32.not_le.mp hd)] at h; exact h
    · rw [if_pos (Int32.not_le.mp hb)] at h; exact h
  · unfold fS at h
    rw [if_neg (fun q => e (by rw [q]; rfl))] at h; exact h
theorem pc_top (hR : RelC C S) (e : fL S x = 0) (h : post (nI (tp S x)) C) : w_X3_topBitOf post C x := by
  obtain ⟨hi, a1, a2, a3, a4, a5, a6, a7, a8⟩ := hR.at e
  obtain ⟨-, k2⟩ := kd _ a7 a8
  unfold tp at h
  refine ⟨hi, fun hc => ?_, fun hc => ?_⟩
  · rw [if_neg (fun q => hc (by rw [a2]; exact k2.mpr q))] at h; exact h
  · rw [if_pos (k2.mp (by rw [← a2]; exact hc))] at h; exact h
theorem pc_findPl (hR : RelC C S) (h : post (ng (fP S x y)) C) : w_X3_findingOfPlane post C x y := by
  refine pc_findP hR ⟨fun e => ?_, fun e => ?_⟩
  · have e := (ng_ne _ (fL_le S x)).mp e
    obtain ⟨hi, a1, a2, a3, a4, a5, a6, a7, a8⟩ := hR.at e
    obtain ⟨k1, -⟩ := kd _ a7 a8
    unfold fP at h
    rw [if_pos e] at h
    refine ⟨hi, fun hc => ⟨fun hd => ?_, fun hd => pc_top hR e ⟨fun hg => ?_, fun hg => ?_⟩⟩, fun hc => ?_⟩
    · rw [if_neg (fun q => hc (by rw [a2]; exact k1.mpr q)), if_pos hd] at h; exact h
    · rw [if_neg (fun q => hc (by rw [a2]; exact k1.mpr q)), if_neg hd, if_neg (Int32.not_lt.mpr hg)] at h; exact h
    · rw [if_neg (fun q => hc (by rw [a2]; exact k1.mpr q)), if_neg hd, if_pos (Int32.not_le.mp hg)] at h; exact h
    · rw [if_pos (k1.mp (by rw [← a2]; exact hc))] at h; exact h
  · unfold fP at h
    rw [if_neg (fun q => e (by rw [q]; rfl))] at h; exact h
theorem pc_none (hR : RelC C S) {r : Int32} (h1 : r ≠ -6 → post r C) (h2 : r = -6 → ∀ C', RelC C' (tellS S 6) → post (-6) C') : w_X3_foundOrNone post C r :=
  ⟨fun h => h1 h, fun h => pc_told (k := 6) hR (by decide) (by decide) (h2 h)⟩
end PC
