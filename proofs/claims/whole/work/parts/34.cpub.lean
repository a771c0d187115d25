theorem noV_t {S : Sh} {x : Int32} (h : x < 0 ∨ nI (sV S) ≤ x) : noV S x = true := by unfold noV; rcases h with h | h <;> simp [h]
theorem noV_f {S : Sh} {x : Int32} (h0 : ¬ x < 0) (h1 : ¬ nI (sV S) ≤ x) : ¬ noV S x = true := by unfold noV; simp [h0, h1]
theorem noP_t {x : Int32} (h : x < 0 ∨ (12 : Int32) ≤ x) : noP x = true := by unfold noP; rcases h with h | h <;> simp [h]
theorem noP_f {x : Int32} (h0 : ¬ x < 0) (h1 : ¬ (12 : Int32) ≤ x) : ¬ noP x = true := by unfold noP; simp [h0, h1]
theorem noX_t {x : Int32} (h : x < 0 ∨ (1023 : Int32) < x) : noX x = true := by unfold noX; rcases h with h | h <;> simp [h]
theorem noX_f {x : Int32} (h0 : ¬ x < 0) (h1 : ¬ (1023 : Int32) < x) : ¬ noX x = true := by unfold noX; simp [h0, h1]
theorem InvS.put {S : Sh} (hI : InvS S) {j k v : Nat} (hk : k ≤ 3) (hv : k ≠ 0 → v < sV S) (h3 : k = 3 → ∀ i, i < sL S v → sX S v i < 256) : InvS (putS S j k v) := by
  obtain ⟨a1, a2, a3, a4, a5, a6, a7, a8, a9⟩ := hI
  refine ⟨a1, a2, a3, a4, a5, a6, a7, fun i hi => ?_, a9⟩
  show va_up (sK S) j k i ≤ 3 ∧ (va_up (sK S) j k i ≠ 0 → va_up (sR S) j v i < sV S) ∧ (va_up (sK S) j k i = 3 → ∀ m, m < sL S (va_up (sR S) j v i) → sX S (va_up (sR S) j v i) m < 256)
  by_cases e : i = j
  · subst e; rw [va_up_self, va_up_self]; exact ⟨hk, hv, h3⟩
  · rw [va_up_ne _ _ e, va_up_ne _ _ e]; exact a8 i hi
theorem RelC.put {C : CS} {S : Sh} (hR : RelC C S) {j k v : Nat} (hk : k ≤ 3) (h0 : k ≠ 0) (hv : v < sV S) (h3 : k = 3 → ∀ i, i < sL S v → sX S v i < 256) : RelC (cru (cou C 2 (va_up (co C 2) j (some v))) 3 (upd (cr C 3) j (nI (k - 1)))) (putS S j k v) := by
  obtain ⟨hI, hn, hz0, hz1, hz2, hsh, hhi, ho1, ho2, hst, hfo, ke, hV⟩ := hR
  refine ⟨hI.put hk (fun _ => hv) h3, hn, hz0, hz1, hz2, fun i hi => ?_, hhi, ho1, fun i w hw => ?_, hst, hfo, ke, hV⟩
  · show (va_up (sK S) j k i = 0 → va_up (co C 2) j (some v) i = none) ∧ (va_up (sK S) j k i ≠ 0 → va_up (co C 2) j (some v) i = some (va_up (sR S) j v i) ∧ upd (cr C 3) j (nI (k - 1)) i = nI (va_up (sK S) j k i - 1))
    by_cases e : i = j
    · subst e; rw [va_up_self, va_up_self, va_up_self, pk_us]; exact ⟨fun q => absurd q h0, fun _ => ⟨rfl, rfl⟩⟩
    · rw [va_up_ne _ _ e, va_up_ne _ _ e, va_up_ne _ _ e, pk_un e]; exact hsh i hi
  · have hw : va_up (co C 2) j (some v) i = some w := hw
    by_cases e : i = j
    · subst e; rw [va_up_self] at hw; cases hw; show v < cn C; rw [hn]; exact hv
    · rw [va_up_ne _ _ e] at hw; exact ho2 i w hw
theorem RelC.take {C : CS} {S : Sh} (hR : RelC C S) {j : Nat} : RelC (cou C 2 (va_up (co C 2) j none)) (putS S j 0 0) := by
  obtain ⟨hI, hn, hz0, hz1, hz2, hsh, hhi, ho1, ho2, hst, hfo, ke, hV⟩ := hR
  refine ⟨hI.put (by omega) (fun q => absurd rfl q) (fun q => by cases q), hn, hz0, hz1, hz2, fun i hi => ?_, hhi, ho1, fun i w hw => ?_, hst, hfo, ke, hV⟩
  · show (va_up (sK S) j 0 i = 0 → va_up (co C 2) j none i = none) ∧ (va_up (sK S) j 0 i ≠ 0 → va_up (co C 2) j none i = some (va_up (sR S) j 0 i) ∧ cr C 3 i = nI (va_up (sK S) j 0 i - 1))
    by_cases e : i = j
    · subst e; rw [va_up_self, va_up_self, va_up_self]; exact ⟨fun _ => rfl, fun q => absurd rfl q⟩
    · rw [va_up_ne _ _ e, va_up_ne _ _ e, va_up_ne _ _ e]; exact hsh i hi
  · have hw : va_up (co C 2) j none i = some w := hw
    by_cases e : i = j
    · subst e; rw [va_up_self] at hw; cases hw
    · rw [va_up_ne _ _ e] at hw; exact ho2 i w hw
theorem RelC.hist {C : CS} {S : Sh} (hR : RelC C S) {x : Int32} (h0 : ¬ x < 0) (h1 : ¬ nI (sV S) ≤ x) : vp_in x 500 ∧ x.toNatClampNeg < sV S ∧ co C 1 x.toNatClampNeg = some x.toNatClampNeg ∧ x.toNatClampNeg < cn C := by
  have hI := hR.inv
  have h2 := tn_int h0
  rw [fa_le, nI_toInt (by have := hI.2.1; omega)] at h1
  have h3 : x.toNatClampNeg < sV S := by omega
  refine ⟨?_, h3, hR.2.2.2.2.2.2.1 _ (by rw [hR.n]; exact h3), by rw [hR.n]; exact h3⟩
  rw [vp_in_iff]
  have := hI.2.1
  omega
section PCB
variable {post : Int32 → CS → Prop} {C : CS} {S : Sh} {x1 x2 x3 x4 : Int32}
theorem pc_show (hR : RelC C S) {v : Nat} (hv : v < sV S) (hx : vp_in x2 12) (h : ∀ C', RelC C' (putS S x2.toNatClampNeg 1 v) → (∀ u, u < sV S → cf C' u = cf C u) → post (nI v) C') : w_X3_showGrown post C v x2 := by
  refine ⟨by rw [hR.n]; exact hv, hx, ?_⟩
  rw [(hR.ver hv).1]
  exact h _ (hR.put (k := 1) (by omega) (by omega) hv (fun q => by cases q)) (fun _ _ => rfl)
theorem pc_version (hR : RelC C S) (h : ∀ C', RelC C' (sp_version S x1 x2).2 → post (sp_version S x1 x2).1 C') : w_X3_version post C x1 x2 := by
  unfold sp_version at h
  refine pc_isV hR (fun h0 h1 => ⟨fun q => absurd q (by decide), fun _ => ?_⟩) (fun hb => ⟨fun _ => ?_, fun q => absurd rfl q⟩)
  · rw [if_neg (noV_f h0 h1)] at h
    refine pc_place (fun hi g0 g1 => ⟨fun _ => ?_, fun q => absurd q (by decide)⟩) (fun hb => ⟨fun q => absurd rfl q, fun _ => ?_⟩)
    · rw [if_neg (noP_f g0 g1)] at h
      obtain ⟨b1, b2, b3, b4⟩ := hR.hist h0 h1
      refine ⟨b1, fun w hw => ⟨_, hw.trans b3, b4, pc_show hR b2 hi (fun C' hR' hc => ⟨by rw [hR'.n]; exact b2, ?_⟩)⟩⟩
      rw [hc _ b2, (hR.ver b2).2.2.1]
      exact h C' hR'
    · rw [if_pos (noP_t hb)] at h
      exact pc_told (k := 1) hR (by decide) (by decide) h
  · rw [if_pos (noV_t hb)] at h
    exact pc_told (k := 1) hR (by decide) (by decide) h
theorem frk_01 (S : Sh) (v : Nat) : frk S v = 0 ∨ frk S v = 1 := by unfold frk; split <;> simp
theorem pc_about (hR : RelC C S) (h : ∀ C', RelC C' (sp_about S x1 x2).2 → post (sp_about S x1 x2).1 C') : w_X3_about post C x1 x2 := by
  unfold sp_about at h
  refine pc_isV hR (fun h0 h1 => ⟨fun _ => ?_, fun q => absurd q (by decide)⟩) (fun hb => ⟨fun q => absurd rfl q, fun _ => ?_⟩)
  · rw [if_neg (noV_f h0 h1)] at h
    obtain ⟨b1, b2, b3, b4⟩ := hR.hist h0 h1
    obtain ⟨c0, c1, c3, c6, c7, c8, c9⟩ := hR.ver b2
    refine ⟨b1, fun w hw => ?_⟩
    have e := hw.trans b3
    refine ⟨fun g => ?_, fun g => ?_, fun g => ?_, fun g => ?_, fun g => ?_, fun g0 g1 g2 g3 g4 => ?_⟩
    · rw [if_pos g] at h
      exact ⟨_, e, b4, by rw [c3]; exact h C hR⟩
    · subst g
      rw [if_neg (by decide), if_pos rfl] at h
      refine ⟨_, e, b4, fun w9 hw9 => ?_⟩
      rw [c1] at hw9
      by_cases hz : x1.toNatClampNeg = 0
      · rw [if_pos hz] at h hw9
        exact ⟨fun q => absurd hw9 q, fun _ => pc_told (k := 6) hR (by decide) (by decide) h⟩
      · rw [if_neg hz] at h hw9
        refine ⟨fun _ w10 hw10 => ?_, fun q => by rw [hw9] at q; cases q⟩
        rw [c1, if_neg hz] at hw10
        have hp := hR.inv.2.2.2.2.2.1 _ b2 hz
        refine ⟨_, hw10, by rw [hR.n]; omega, ?_⟩
        rw [(hR.ver (show sP S x1.toNatClampNeg < sV S by omega)).1]
        exact h C hR
    · subst g
      rw [if_neg (by decide), if_neg (by decide), if_pos rfl] at h
      exact ⟨_, e, b4, by rw [c8]; exact h C hR⟩
    · subst g
      rw [if_neg (by decide), if_neg (by decide), if_neg (by decide), if_pos rfl] at h
      refine ⟨_, e, b4, fun q => ?_, fun q => ?_⟩
      · rw [c6] at q; have h2 := h C hR; rw [q] at h2; exact h2
      · rw [c6] at q; have h2 := h C hR
        rcases frk_01 S x1.toNatClampNeg with f | f
        · exact absurd f q
        · rw [f] at h2; exact h2
    · subst g
      rw [if_neg (by decide), if_neg (by decide), if_neg (by decide), if_neg (by decide), if_pos rfl] at h
      exact ⟨_, e, b4, by rw [c7]; exact h C hR⟩
    · rw [if_neg g0, if_neg g1, if_neg g2, if_neg g3, if_neg g4] at h
      exact pc_told (k := 1) hR (by decide) (by decide) h
  · rw [if_pos (noV_t hb)] at h
    exact pc_told (k := 1) hR (by decide) (by decide) h
theorem pc_versions (hR : RelC C S) (h : ∀ C', RelC C' (sp_versions S x1).2 → post (sp_versions S x1).1 C') : w_X3_versions post C x1 := by
  unfold sp_versions at h
  refine ⟨fun q => ?_, fun q => ?_⟩
  · rw [if_pos q] at h; rw [hR.2.2.1]; exact h C hR
  · rw [if_neg q] at h; rw [hR.2.2.2.1]; exact h C hR
theorem cm_loop (hR : RelC C S) {r : Int32} (hp : post r C) : ∀ k v u, v < sV S → u < sV S → v + u < k → r = nI (cmF (sP S) k v u) → w_X3_common_37 post k C (some v) (some u) := by
  intro k
  induction k with
  | zero => intro v u _ _ h; omega
  | succ k ih =>
    intro v u hv hu hk hr
    have hI := hR.inv
    rw [cmF] at hr
    refine ⟨fun w q => (by cases q; rw [hR.n]; exact hv), fun w q => (by cases q; rw [hR.n]; exact hu), fun e => ?_, fun e => ⟨fun q => (by cases q), fun _ => ⟨fun q => (by cases q), fun _ => ⟨v, rfl, by rw [hR.n]; exact hv, u, rfl, by rw [hR.n]; exact hu, ?_⟩⟩⟩⟩
    · cases e
      rw [if_pos rfl] at hr
      refine ⟨fun _ => ⟨v, rfl, by rw [hR.n]; exact hv, ?_⟩, fun q => by cases q⟩
      rw [(hR.ver hv).1, ← hr]; exact hp
    · have hne : ¬ v = u := fun q => e (by rw [q])
      rw [if_neg hne] at hr
      have := hI.2.1
      rw [(hR.ver hv).1, (hR.ver hu).1]
      refine ⟨fun q w hw => ?_, fun q w hw => ?_⟩
      · rw [nI_leI (by omega) (by omega)] at q
        rw [if_neg (by omega)] at hr
        have hz : ¬ u = 0 := by omega
        rw [(hR.ver hu).2.1, if_neg hz] at hw
        subst hw
        have hq := hI.2.2.2.2.2.1 u hu hz
        exact ih v (sP S u) hv (by omega) (by omega) hr
      · rw [nI_leI (by omega) (by omega)] at q
        rw [if_pos (by omega)] at hr
        have hz : ¬ v = 0 := by omega
        rw [(hR.ver hv).2.1, if_neg hz] at hw
        subst hw
        have hq := hI.2.2.2.2.2.1 v hv hz
        exact ih (sP S v) u (by omega) hu (by omega) hr
theorem pc_common (hR : RelC C S) (h : ∀ C', RelC C' (sp_common S x1 x2).2 → post (sp_common S x1 x2).1 C') : w_X3_common post C x1 x2 := by
  unfold sp_common at h
  refine pc_isV hR (fun h0 h1 => ⟨fun q => absurd q (by decide), fun _ => ?_⟩) (fun hb => ⟨fun _ => ?_, fun q => absurd rfl q⟩)
  · rw [if_neg (noV_f h0 h1)] at h
    refine pc_isV hR (fun g0 g1 => ⟨fun _ => ?_, fun q => absurd q (by decide)⟩) (fun hb => ⟨fun q => absurd rfl q, fun _ => ?_⟩)
    · rw [if_neg (noV_f g0 g1)] at h
      obtain ⟨b1, b2, b3, b4⟩ := hR.hist h0 h1
      obtain ⟨d1, d2, d3, d4⟩ := hR.hist g0 g1
      refine ⟨b1, fun w hw => ⟨d1, fun w2 hw2 => ⟨x1.toNatClampNeg + x2.toNatClampNeg + 1, ?_⟩⟩⟩
      rw [hw, hw2, b3, d3]
      exact cm_loop hR (h C hR) _ _ _ b2 d2 (by omega) rfl
    · rw [if_pos (noV_t hb)] at h
      exact pc_told (k := 1) hR (by decide) (by decide) h
  · rw [if_pos (noV_t hb)] at h
    exact pc_told (k := 1) hR (by decide) (by decide) h
theorem pc_put (hR : RelC C S) (h : ∀ C', RelC C' (sp_put S x1 x2).2 → post (sp_put S x1 x2).1 C') : w_X3_put post C x1 x2 := by
  unfold sp_put at h
  refine pc_findP hR ⟨fun e => ?_, fun e => ?_⟩
  · have e := (ng_ne _ (fL_le S x1)).mp e
    rw [if_pos e] at h
    obtain ⟨hi, a1, a2, a3, a4, a5, a6, a7, a8⟩ := hR.at e
    refine pc_place (fun hj g0 g1 => ⟨fun _ => ⟨hi, fun w hw => ⟨_, hw.trans a1, a4, hj, ?_⟩⟩, fun q => absurd q (by decide)⟩) (fun hb => ⟨fun q => absurd rfl q, fun _ => ?_⟩)
    · rw [if_neg (noP_f g0 g1)] at h
      rw [pk_us, a2]
      exact h _ (hR.put a7 a8 a3 (hR.inv.2.2.2.2.2.2.2.1 _ (vin_tn hi).1).2.2)
    · rw [if_pos (noP_t hb)] at h
      exact pc_told (k := 1) hR (by decide) (by decide) h
  · have e2 : ¬ fL S x1 = 0 := fun q => e (by rw [q]; rfl)
    rw [if_neg e2] at h
    exact pc_told hR (fL_le S x1) e2 h
theorem pc_take (hR : RelC C S) (h : ∀ C', RelC C' (sp_take S x1).2 → post (sp_take S x1).1 C') : w_X3_take post C x1 := by
  unfold sp_take at h
  refine pc_place (fun hj g0 g1 => ⟨fun _ => ⟨hj, ?_⟩, fun q => absurd q (by decide)⟩) (fun hb => ⟨fun q => absurd rfl q, fun _ => ?_⟩)
  · rw [if_neg (noP_f g0 g1)] at h; exact h _ hR.take
  · rw [if_pos (noP_t hb)] at h
    exact pc_told (k := 1) hR (by decide) (by decide) h
theorem pc_row (hR : RelC C S) (h : ∀ C', RelC C' (sp_row S x1 x2).2 → post (sp_row S x1 x2).1 C') : w_X3_row post C x1 x2 := by
  unfold sp_row at h
  refine pc_findP hR ⟨fun e => ?_, fun e => ?_⟩
  · have e := (ng_ne _ (fL_le S x1)).mp e
    rw [if_pos e] at h
    obtain ⟨hi, a1, a2, a3, a4, a5, a6, a7, a8⟩ := hR.at e
    obtain ⟨k1, -⟩ := kd _ a7 a8
    refine ⟨fun g => ?_, fun g => ?_, fun g => ?_, fun g0 g1 g2 => ?_⟩
    · rw [if_pos g] at h; exact ⟨hi, by rw [a2]; exact h C hR⟩
    · subst g; rw [if_neg (by decide), if_pos rfl] at h
      exact ⟨hi, fun w hw => ⟨_, hw.trans a1, a4, by rw [a5]; exact h C hR⟩⟩
    · subst g; rw [if_neg (by decide), if_neg (by decide), if_pos rfl] at h
      refine ⟨hi, fun q => ?_, fun q => ?_⟩
      · rw [if_neg (fun z => q (by rw [a2]; exact k1.mpr z))] at h
        exact pc_told (k := 3) hR (by decide) (by decide) h
      · rw [if_pos (k1.mp (by rw [← a2]; exact q))] at h
        exact fun w hw => ⟨_, hw.trans a1, a4, by rw [(hR.ver a3).1]; exact h C hR⟩
    · rw [if_neg g0, if_neg g1, if_neg g2] at h
      exact pc_told (k := 1) hR (by decide) (by decide) h
  · have e2 : ¬ fL S x1 = 0 := fun q => e (by rw [q]; rfl)
    rw [if_neg e2] at h
    exact pc_told hR (fL_le S x1) e2 h
theorem pc_at (hR : RelC C S) (h : ∀ C', RelC C' (sp_at S x1 x2).2 → post (sp_at S x1 x2).1 C') : w_X3_at post C x1 x2 := by
  unfold sp_at at h
  refine pc_findI hR ⟨fun e => ?_, fun e => ?_⟩
  · have e := (ng_ne _ (fI_le S x1 x2)).mp e
    rw [if_pos e] at h
    obtain ⟨f0, f1, f2⟩ := fI_0 e
    obtain ⟨hi, a1, a2, a3, a4, a5, a6, a7, a8⟩ := hR.at f0
    obtain ⟨j, rfl, hj⟩ := idx_nat a6 f1 f2
    refine ⟨hi, fun w hw => ⟨_, hw.trans a1, a4, pc_lay4 hR a3 (fun C' hs hz hf hR' => ⟨vin_nI (by omega) (by omega), ?_⟩)⟩⟩
    rw [tn_nI (by omega)] at h ⊢
    rw [(hf j hj).1]
    exact h C' hR'
  · have e2 : ¬ fI S x1 x2 = 0 := fun q => e (by rw [q]; rfl)
    rw [if_neg e2] at h
    exact pc_told hR (fI_le S x1 x2) e2 h
theorem pc_weight {post : Int64 → CS → Prop} (hR : RelC C S) (h : ∀ C', RelC C' (sp_weight S x1 x2).2 → post (sp_weight S x1 x2).1 C') : w_X3_weight post C x1 x2 := by
  unfold sp_weight at h
  refine pc_findI hR ⟨fun e => ?_, fun e => ?_⟩
  · have e := (ng_ne _ (fI_le S x1 x2)).mp e
    rw [if_pos e] at h
    obtain ⟨f0, f1, f2⟩ := fI_0 e
    obtain ⟨hi, a1, a2, a3, a4, a5, a6, a7, a8⟩ := hR.at f0
    obtain ⟨j, rfl, hj⟩ := idx_nat a6 f1 f2
    refine ⟨hi, fun w hw => ⟨_, hw.trans a1, a4, pc_lay4 hR a3 (fun C' hs hz hf hR' => ⟨vin_nI (by omega) (by omega), ?_⟩)⟩⟩
    rw [tn_nI (by omega)] at h ⊢
    rw [(hf j hj).2]
    exact h C' hR'
  · have e2 : ¬ fI S x1 x2 = 0 := fun q => e (by rw [q]; rfl)
    rw [if_neg e2] at h
    exact pc_told hR (fI_le S x1 x2) e2 h
theorem pc_step (hR : RelC C S) (h : ∀ C', RelC C' (sp_step S x1).2 → post (sp_step S x1).1 C') : w_X3_step post C x1 := by
  unfold sp_step at h
  have hz := hR.2.2.2.2.1
  have hN := hR.inv.2.2.2.2.2.2.2.2
  refine ⟨fun g => ?_, fun g => ⟨fun q => ?_, fun q => ?_⟩⟩
  · rw [if_pos g] at h; exact pc_told (k := 6) hR (by decide) (by decide) h
  · rw [hz] at q
    rw [if_neg g, if_neg (Int32.not_le.mpr q)] at h
    have h2 := tn_int g
    rw [fa_lt, nI_toInt (by omega)] at q
    refine ⟨?_, ?_⟩
    · rw [vp_in_iff]; omega
    · rw [hR.2.2.2.2.2.2.2.2.2.1 _ (by omega)]; exact h C hR
  · rw [hz] at q
    rw [if_neg g, if_pos (Int32.not_lt.mp q)] at h; exact pc_told (k := 6) hR (by decide) (by decide) h
theorem fnd {x : Int32} (h0 : ¬ (-1 : Int32) < x) (h1 : ¬ x < (-6 : Int32)) : vp_in (-x) 7 ∧ (-x).toNatClampNeg < 7 ∧ (-x).toNatClampNeg ≠ 0 := by
  rw [fa_lt] at h0 h1
  have e1 : (-1 : Int32).toInt = -1 := rfl
  have e2 : (-6 : Int32).toInt = -6 := rfl
  have e3 : (-x).toInt = -x.toInt := fb_negI (by omega)
  have hv : vp_in (-x) 7 := by rw [vp_in_iff, e3]; omega
  obtain ⟨g1, g2⟩ := vin_tn hv
  have := tn_int g2
  exact ⟨hv, g1, by omega⟩
theorem pc_found (hR : RelC C S) (h : ∀ C', RelC C' (sp_found S x1).2 → post (sp_found S x1).1 C') : w_X3_found post C x1 := by
  unfold sp_found at h
  refine ⟨fun g => ?_, fun g => ⟨fun q => ?_, fun q => ?_⟩⟩
  · rw [if_pos g] at h; exact pc_told (k := 1) hR (by decide) (by decide) h
  · rw [if_neg g, if_neg (Int32.not_lt.mpr q)] at h
    obtain ⟨f1, f2, f3⟩ := fnd g (Int32.not_lt.mpr q)
    exact ⟨f1, by rw [hR.2.2.2.2.2.2.2.2.2.2.1 _ f2]; exact h C hR⟩
  · rw [if_neg g, if_pos (Int32.not_le.mp q)] at h; exact pc_told (k := 1) hR (by decide) (by decide) h
end PCB
