theorem RelM.hist {M : MS} {S : Sh} (hR : RelM M S) {x : Int32} (h0 : ¬ x < 0) (h1 : ¬ nI (sV S) ≤ x) : vp_in x 500 ∧ x.toNatClampNeg < sV S ∧ mr M 2 x.toNatClampNeg = nI (sL S x.toNatClampNeg) ∧ mr M 3 x.toNatClampNeg = (if x.toNatClampNeg = 0 then -1 else nI (sP S x.toNatClampNeg)) := by
  have hI := hR.inv
  have h2 := tn_int h0
  rw [fa_le, nI_toInt (by have := hI.2.1; omega)] at h1
  have h3 : x.toNatClampNeg < sV S := by omega
  obtain ⟨a1, a2⟩ := hR.2.2.2.2.2.1 _ h3
  refine ⟨?_, h3, a1, a2⟩
  rw [vp_in_iff]
  have := hI.2.1
  omega
theorem RelM.putV {M : MS} {S : Sh} (hR : RelM M S) {j v : Nat} (hv : v < sV S) : RelM (mru (mru M 8 (upd (mr M 8) j 1)) 9 (upd (mr M 9) j (nI v))) (putS S j 1 v) := by
  obtain ⟨hI, h0, h7, h14, he, hvv, hp, hs, hf⟩ := hR
  refine ⟨hI.put (by omega) (fun _ => hv) (fun q => by cases q), h0, h7, h14, he, hvv, fun i hi => ?_, hs, hf⟩
  show upd (mr M 8) j 1 i = nI (va_up (sK S) j 1 i) ∧ (va_up (sK S) j 1 i = 1 → upd (mr M 9) j (nI v) i = nI (va_up (sR S) j v i)) ∧ (2 ≤ va_up (sK S) j 1 i → mr M 10 i = nI (sL S (va_up (sR S) j v i)) ∧ ∀ m, m < sL S (va_up (sR S) j v i) → mr M 11 (400 * i + m) = nI (sX S (va_up (sR S) j v i) m) ∧ mr M 12 (400 * i + m) = sW S (va_up (sR S) j v i) m)
  by_cases e : i = j
  · subst e; rw [va_up_self, va_up_self, pk_us, pk_us]; exact ⟨rfl, fun _ => rfl, fun q => by omega⟩
  · rw [va_up_ne _ _ e, va_up_ne _ _ e, pk_un e, pk_un e]; exact hp i hi
section PMB
variable {post : Int32 → MS → Prop} {M M0 : MS} {S : Sh} {x1 x2 x3 x4 x5 : Int32}
theorem pm_version (hR : RelM M S) (h : ∀ M', RelM M' (sp_version S x1 x2).2 → post (sp_version S x1 x2).1 M') : w_X4_version post M x1 x2 := by
  unfold sp_version at h
  refine pm_isV hR (fun h0 h1 => ⟨fun q => absurd q (by decide), fun _ => ?_⟩) (fun hb => ⟨fun _ => ?_, fun q => absurd rfl q⟩)
  · rw [if_neg (noV_f h0 h1)] at h
    refine pm_place (fun hi g0 g1 => ⟨fun _ => ?_, fun q => absurd q (by decide)⟩) (fun hb => ⟨fun q => absurd rfl q, fun _ => ?_⟩)
    · rw [if_neg (noP_f g0 g1)] at h
      obtain ⟨b1, b2, b3, b4⟩ := hR.hist h0 h1
      refine ⟨hi, b1, ?_⟩
      rw [b3]
      have := h _ (hR.putV (j := x2.toNatClampNeg) b2)
      rw [nI_tn h0] at this
      exact this
    · rw [if_pos (noP_t hb)] at h
      exact pm_ans (k := 1) hR (by decide) (by decide) h
  · rw [if_pos (noV_t hb)] at h
    exact pm_ans (k := 1) hR (by decide) (by decide) h
theorem pm_par (hR : RelM M S) {u : Nat} (hu : u < sV S) : mr M 3 u = (if u = 0 then -1 else nI (sP S u)) := (hR.2.2.2.2.2.1 u hu).2
theorem lm_chl (hR : RelM M S) {v : Nat} (hv : v < sV S) : ∀ k u n, u ≠ 0 → u + k = sV S → n = fb_ct (fun t => decide (1 ≤ t ∧ sP S t = v)) u → post (nI (chl S v)) M → w_X4_about_86 post (k + 1) M (nI v) (nI n) (nI u) := by
  have hz : mz M 0 = nI (sV S) := hR.2.1
  have hb := hR.inv.2.1
  intro k
  induction k with
  | zero =>
    intro u n h0 hu hn h
    have e : u = sV S := by omega
    subst e hn
    refine ⟨fun _ => h, fun q => absurd (by rw [hz]; exact nI_le (by omega) (by omega)) q⟩
  | succ k ih =>
    intro u n h0 hu hn h
    have hnl : n ≤ u := by rw [hn]; exact fb_ct_le _ _
    have hp := pm_par hR (show u < sV S by omega)
    rw [if_neg h0] at hp
    have hpl := hR.inv.2.2.2.2.2.1 u (by omega) h0
    refine ⟨fun q => absurd q (by rw [hz]; exact nI_ge (by omega) (by omega)), fun _ => ⟨vin_nI (by omega) (by omega), fun q => ?_, fun q => ?_⟩⟩
    · rw [tn_nI (by omega), hp, nI_eq (by omega) (by omega)] at q
      show w_X4_about_86 post (k + 1) M _ (nI n + nI 0) (nI u + 1)
      rw [nI_add, nI_1]
      refine ih (u + 1) _ (by omega) (by omega) ?_ h
      rw [fb_ct_succ, hn, if_neg (by simp; omega)]
    · rw [tn_nI (by omega), hp, nI_eq (by omega) (by omega)] at q
      show w_X4_about_86 post (k + 1) M _ (nI n + nI 1) (nI u + 1)
      rw [nI_add, nI_1]
      refine ih (u + 1) _ (by omega) (by omega) ?_ h
      rw [fb_ct_succ, hn, if_pos (by simp; omega)]
theorem lm_frk (hR : RelM M S) {v : Nat} (hv : v < sV S) (h0v : v ≠ 0) : ∀ k u, u ≠ 0 → u + k = v → post (frk S v) M → w_X4_about_125 post (k + 1) M (nI v) (if fb_ct (fun t => decide (1 ≤ t ∧ sP S t = sP S v)) u = 0 then 0 else 1) (nI u) := by
  have hb := hR.inv.2.1
  intro k
  induction k with
  | zero =>
    intro u h0 hu h
    have e : u = v := by omega
    subst e
    exact ⟨fun _ => h, fun q => absurd (nI_le (by omega) (by omega)) q⟩
  | succ k ih =>
    intro u h0 hu h
    have hp := pm_par hR (show u < sV S by omega)
    have hpv := pm_par hR hv
    rw [if_neg h0] at hp
    rw [if_neg h0v] at hpv
    have hpl := hR.inv.2.2.2.2.2.1 u (by omega) h0
    have hpl2 := hR.inv.2.2.2.2.2.1 v hv h0v
    refine ⟨fun q => absurd q (nI_ge (by omega) (by omega)), fun _ => ⟨vin_nI (by omega) (by omega), vin_nI (by omega) (by omega), fun q => ?_, fun q => ?_⟩⟩
    · rw [tn_nI (by omega), tn_nI (by omega), hp, hpv, nI_eq (by omega) (by omega)] at q
      show w_X4_about_125 post (k + 1) M _ _ (nI u + 1)
      rw [nI_1]
      have := ih (u + 1) (by omega) (by omega) h
      rw [fb_ct_succ, if_neg (show ¬ decide (1 ≤ u ∧ sP S u = sP S v) = true by simp; omega), Nat.add_zero] at this
      exact this
    · rw [tn_nI (by omega), tn_nI (by omega), hp, hpv, nI_eq (by omega) (by omega)] at q
      show w_X4_about_125 post (k + 1) M _ 1 (nI u + 1)
      rw [nI_1]
      have := ih (u + 1) (by omega) (by omega) h
      rw [fb_ct_succ, if_pos (show decide (1 ≤ u ∧ sP S u = sP S v) = true by simp; omega), if_neg (by omega)] at this
      exact this
theorem lm_dep (hR : RelM M S) {r : Int32} (hp : post r M) : ∀ k v n, v < sV S → v < k → r = nI (n + depF (sP S) v v) → w_X4_about_164 post (k + 1) M (nI n) (nI v) := by
  have hb := hR.inv.2.1
  intro k
  induction k with
  | zero => intro v n _ h; omega
  | succ k ih =>
    intro v n hv hk hr
    have hpv := pm_par hR hv
    refine ⟨fun q => absurd q (nI_pos (by omega)), fun _ => ⟨vin_nI (by omega) (by omega), ?_⟩⟩
    rw [tn_nI (by omega), hpv, nI_1]
    by_cases e : v = 0
    · subst e
      rw [if_pos rfl]
      refine ⟨fun _ => ?_, fun q => absurd (show (-1 : Int32) < 0 by decide) q⟩
      have : r = nI (n + 1) := hr
      rw [← this]; exact hp
    · rw [if_neg e]
      have hpl := hR.inv.2.2.2.2.2.1 v hv e
      refine ih (sP S v) (n + 1) (by omega) (by omega) ?_
      rw [hr]
      congr 1
      obtain ⟨m, rfl⟩ : ∃ m, v = m + 1 := ⟨v - 1, by omega⟩
      rw [depF, if_neg e]
      rw [dep_fuel (q := sP S) (q' := sP S) m (sP S (m + 1)) (sP S (m + 1)) (by omega) (Nat.le_refl _) (fun u hu h0 => hR.inv.2.2.2.2.2.1 u (by omega) h0) (fun u hu => rfl)]
      omega
theorem pm_about (hR : RelM M S) (h : ∀ M', RelM M' (sp_about S x1 x2).2 → post (sp_about S x1 x2).1 M') : w_X4_about post M x1 x2 := by
  unfold sp_about at h
  have hb := hR.inv.2.1
  have h1b := hR.inv.1
  refine pm_isV hR (fun h0 h1 => ⟨fun q => absurd q (by decide), fun _ => ?_⟩) (fun hb => ⟨fun _ => ?_, fun q => absurd rfl q⟩)
  · rw [if_neg (noV_f h0 h1)] at h
    obtain ⟨b1, b2, b3, b4⟩ := hR.hist h0 h1
    have ex : x1 = nI x1.toNatClampNeg := (nI_tn h0).symm
    have et : (nI x1.toNatClampNeg).toNatClampNeg = x1.toNatClampNeg := tn_nI (by omega)
    have hz : x1 = 0 ↔ x1.toNatClampNeg = 0 := by
      constructor
      · intro q; rw [q]; rfl
      · intro q; rw [ex, q]; rfl
    refine ⟨fun g => ?_, fun g => ⟨fun g4 => ⟨fun e => ?_, fun e => ?_, fun e => ?_, fun e => ?_, fun e0 e1 e2 e3 => ?_⟩, fun g4 => ?_⟩⟩
    · have : ∀ k : Int32, 0 ≤ k → ¬ x2 = k := fun k hk q => by rw [q] at g; exact absurd g (Int32.not_lt.mpr hk)
      rw [if_neg (this 0 (by decide)), if_neg (this 1 (by decide)), if_neg (this 2 (by decide)), if_neg (this 3 (by decide)), if_neg (this 4 (by decide))] at h
      exact pm_ans (k := 1) hR (by decide) (by decide) h
    · rw [if_pos e] at h; exact ⟨b1, by rw [b3]; exact h M hR⟩
    · subst e
      rw [if_neg (by decide), if_pos rfl] at h
      rw [hz]
      refine ⟨fun q => ?_, fun q => ?_⟩
      · rw [if_neg q] at h b4; exact ⟨b1, by rw [b4]; exact h M hR⟩
      · rw [if_pos q] at h; exact pm_ans (k := 6) hR (by decide) (by decide) h
    · subst e
      rw [if_neg (by decide), if_neg (by decide), if_pos rfl] at h
      refine ⟨sV S - 1 + 1, ?_⟩
      rw [ex]
      have := h M hR
      exact lm_chl hR b2 (sV S - 1) 1 0 (by omega) (by omega) (by rw [fb_ct_succ]; rfl) this
    · subst e
      rw [if_neg (by decide), if_neg (by decide), if_neg (by decide), if_pos rfl] at h
      have hh := h M hR
      by_cases q : x1.toNatClampNeg = 0
      · refine ⟨0 + 1, fun _ => ?_, fun z => absurd (by rw [ex, q]; decide) z⟩
        rw [q] at hh; exact hh
      · refine ⟨x1.toNatClampNeg - 1 + 1, ?_⟩
        rw [ex, et]
        have := lm_frk hR b2 q (x1.toNatClampNeg - 1) 1 (by omega) (by omega) hh
        rw [if_pos (by rw [fb_ct_succ]; rfl)] at this
        exact this
    · have e4 : x2 = 4 := by
        have t0 := tn_int g
        have hx : ∀ k : Nat, k ≤ 3 → x2.toNatClampNeg ≠ k := fun k hk q => by
          have ex2 : x2 = nI k := by rw [← q]; exact (nI_tn g).symm
          have : k = 0 ∨ k = 1 ∨ k = 2 ∨ k = 3 := by omega
          rcases this with r | r | r | r <;> subst r
          · exact e0 ex2
          · exact e1 ex2
          · exact e2 ex2
          · exact e3 ex2
        rw [fa_le] at g4
        have h4 : (4 : Int32).toInt = 4 := rfl
        have a0 := hx 0 (by omega)
        have a1 := hx 1 (by omega)
        have a2 := hx 2 (by omega)
        have a3 := hx 3 (by omega)
        rw [fa_eq, h4]
        omega
      rw [if_neg e0, if_neg e1, if_neg e2, if_neg e3, if_pos e4] at h
      refine ⟨x1.toNatClampNeg + 1 + 1, ?_⟩
      rw [ex, et]
      refine lm_dep hR (h M hR) (x1.toNatClampNeg + 1) x1.toNatClampNeg 0 b2 (by omega) ?_
      rw [Nat.zero_add]; rfl
    · have : ∀ k : Int32, k ≤ 4 → ¬ x2 = k := fun k hk q => by rw [q] at g4; exact absurd hk g4
      rw [if_neg (this 0 (by decide)), if_neg (this 1 (by decide)), if_neg (this 2 (by decide)), if_neg (this 3 (by decide)), if_neg (this 4 (by decide))] at h
      exact pm_ans (k := 1) hR (by decide) (by decide) h
  · rw [if_pos (noV_t hb)] at h
    exact pm_ans (k := 1) hR (by decide) (by decide) h
theorem pm_versions (hR : RelM M S) (h : ∀ M', RelM M' (sp_versions S x1).2 → post (sp_versions S x1).1 M') : w_X4_versions post M x1 := by
  unfold sp_versions at h
  refine ⟨fun q => ?_, fun q => ?_⟩
  · rw [if_pos q] at h; rw [hR.2.1]; exact h M hR
  · rw [if_neg q] at h; rw [hR.2.2.1]; exact h M hR
/-! common: the greatest common ancestor -/
def anF (q : Nat → Nat) : Nat → Nat → Nat → Bool
  | 0, _, _ => false
  | k + 1, a, v => if v = a then true else if v = 0 then false else anF q k a (q v)
theorem anF_le {q : Nat → Nat} : ∀ k a v, (∀ u, u ≤ v → u ≠ 0 → q u < u) → anF q k a v = true → a ≤ v := by
  intro k
  induction k with
  | zero => intro a v _ h; cases h
  | succ k ih =>
    intro a v hd h
    rw [anF] at h
    by_cases e : v = a
    · omega
    · rw [if_neg e] at h
      by_cases e0 : v = 0
      · rw [if_pos e0] at h; cases h
      · rw [if_neg e0] at h
        have := hd v (Nat.le_refl _) e0
        have := ih a (q v) (fun u hu => hd u (by omega)) h
        omega
theorem anF_fuel {q : Nat → Nat} {a : Nat} : ∀ k j v, v < k → v < j → (∀ u, u ≤ v → u ≠ 0 → q u < u) → anF q k a v = anF q j a v := by
  intro k
  induction k with
  | zero => intro j v h; omega
  | succ k ih =>
    intro j v hk hj hd
    cases j with
    | zero => omega
    | succ j =>
      rw [anF, anF]
      by_cases e : v = a
      · rw [if_pos e, if_pos e]
      · rw [if_neg e, if_neg e]
        by_cases e0 : v = 0
        · rw [if_pos e0, if_pos e0]
        · rw [if_neg e0, if_neg e0]
          have := hd v (Nat.le_refl _) e0
          exact ih j (q v) (by omega) (by omega) (fun u hu => hd u (by omega))
theorem cmF_spec {q : Nat → Nat} : ∀ k v u, v + u < k → (∀ t, (t ≤ v ∨ t ≤ u) → t ≠ 0 → q t < t) → anF q (v + 1) (cmF q k v u) v = true ∧ anF q (u + 1) (cmF q k v u) u = true ∧ ∀ a, anF q (v + 1) a v = true → anF q (u + 1) a u = true → a ≤ cmF q k v u := by
  intro k
  induction k with
  | zero => intro v u h; omega
  | succ k ih =>
    intro v u hk hd
    rw [cmF]
    by_cases e : v = u
    · subst e
      rw [if_pos rfl]
      have h1 : anF q (v + 1) v v = true := by rw [anF, if_pos rfl]
      exact ⟨h1, h1, fun a h2 _ => anF_le _ a v (fun u hu => hd u (by omega)) h2⟩
    · rw [if_neg e]
      by_cases hlt : u < v
      · rw [if_pos hlt]
        have hv0 : v ≠ 0 := by omega
        have hq := hd v (Or.inl (Nat.le_refl _)) hv0
        obtain ⟨g1, g2, g3⟩ := ih (q v) u (by omega) (fun t ht => hd t (by omega))
        have up : ∀ a, a ≠ v → (anF q (v + 1) a v = anF q (q v + 1) a (q v)) := fun a ha => by
          rw [anF, if_neg (fun z => ha z.symm), if_neg hv0]
          exact anF_fuel _ _ (q v) (by omega) (by omega) (fun t ht => hd t (by omega))
        have hc : cmF q k (q v) u ≤ q v := anF_le _ _ (q v) (fun t ht => hd t (by omega)) g1
        refine ⟨by rw [up _ (by omega)]; exact g1, g2, fun a ha hb => ?_⟩
        have := anF_le _ a u (fun t ht => hd t (by omega)) hb
        rw [up a (by omega)] at ha
        exact g3 a ha hb
      · rw [if_neg hlt]
        have hu0 : u ≠ 0 := by omega
        have hq := hd u (Or.inr (Nat.le_refl _)) hu0
        obtain ⟨g1, g2, g3⟩ := ih v (q u) (by omega) (fun t ht => hd t (by omega))
        have up : ∀ a, a ≠ u → (anF q (u + 1) a u = anF q (q u + 1) a (q u)) := fun a ha => by
          rw [anF, if_neg (fun z => ha z.symm), if_neg hu0]
          exact anF_fuel _ _ (q u) (by omega) (by omega) (fun t ht => hd t (by omega))
        have hc : cmF q k v (q u) ≤ q u := anF_le _ _ (q u) (fun t ht => hd t (by omega)) g2
        refine ⟨g1, by rw [up _ (by omega)]; exact g2, fun a ha hb => ?_⟩
        have := anF_le _ a v (fun t ht => hd t (by omega)) ha
        rw [up a (by omega)] at hb
        exact g3 a ha hb
theorem lm_anc (hR : RelM M S) {a : Nat} (ha : a < sV S) : ∀ k v, v < sV S → v < k → post (if anF (sP S) k a v = true then 1 else 0) M → w_X4_isAncestor_2 post (k + 1) M (nI a) (nI v) := by
  have hb := hR.inv.2.1
  intro k
  induction k with
  | zero => intro v _ h; omega
  | succ k ih =>
    intro v hv hk h
    rw [anF] at h
    have hpv := pm_par hR hv
    refine ⟨fun q => absurd q (nI_pos (by omega)), fun _ => ⟨fun q => ⟨fun z => absurd q z, fun _ => ?_⟩, fun q => ⟨vin_nI (by omega) (by omega), ?_⟩⟩⟩
    · rw [nI_eq (by omega) (by omega)] at q
      rw [if_pos q, if_pos rfl] at h; exact h
    · rw [nI_eq (by omega) (by omega)] at q
      rw [if_neg q] at h
      rw [tn_nI (by omega), hpv]
      by_cases e0 : v = 0
      · rw [if_pos e0, if_neg (by decide)] at h
        rw [if_pos e0]
        refine ⟨fun _ => ⟨fun _ => h, fun z => ?_⟩, fun z => absurd (show (-1 : Int32) < 0 by decide) z⟩
        rw [fa_eq, nI_toInt (by omega)] at z
        have : (-1 : Int32).toInt = -1 := rfl
        omega
      · rw [if_neg e0] at h ⊢
        have hpl := hR.inv.2.2.2.2.2.1 v hv e0
        exact ih (sP S v) (by omega) (by omega) h
theorem pm_anc (hR : RelM M S) {a v : Nat} (ha : a < sV S) (hv : v < sV S) (h : post (if anF (sP S) (v + 1) a v = true then 1 else 0) M) : w_X4_isAncestor post M (nI a) (nI v) := ⟨v + 1 + 1, lm_anc hR ha (v + 1) v hv (by omega) h⟩
theorem lm_com (hR : RelM M S) {v u c : Nat} (hv : v < sV S) (hu : u < sV S) (h1 : anF (sP S) (v + 1) c v = true) (h2 : anF (sP S) (u + 1) c u = true) (h3 : ∀ a, anF (sP S) (v + 1) a v = true → anF (sP S) (u + 1) a u = true → a ≤ c) (hp : post (nI c) M) : ∀ k a b, a + k = sV S → (c < a → b = c) → w_X4_common_27 post (k + 1) M (nI v) (nI u) (nI b) (nI a) := by
  have hz : mz M 0 = nI (sV S) := hR.2.1
  have hb := hR.inv.2.1
  have hcv : c ≤ v := anF_le _ _ _ (fun t ht h0 => hR.inv.2.2.2.2.2.1 t (by omega) h0) h1
  intro k
  induction k with
  | zero =>
    intro a b ha hab
    have := hab (by omega)
    subst this
    exact ⟨fun _ => hp, fun q => absurd (by rw [hz]; exact nI_le (by omega) (by omega)) q⟩
  | succ k ih =>
    intro a b ha hab
    have keep : (c < a + 1 → b = c) → w_X4_common_61 post (w_X4_common_27 post (k + 1)) M (nI v) (nI u) (nI b) (nI a) := fun hq => by
      show w_X4_common_27 post (k + 1) M _ _ _ (nI a + 1)
      rw [nI_1]; exact ih (a + 1) b (by omega) hq
    refine ⟨fun q => absurd q (by rw [hz]; exact nI_ge (by omega) (by omega)), fun _ => pm_anc hR (by omega) hv ?_⟩
    by_cases e1 : anF (sP S) (v + 1) a v = true
    · rw [if_pos e1]
      refine ⟨fun q => absurd q (by decide), fun _ => pm_anc hR (by omega) hu ?_⟩
      by_cases e2 : anF (sP S) (u + 1) a u = true
      · rw [if_pos e2]
        refine ⟨fun q => absurd q (by decide), fun _ => ?_⟩
        have hac := h3 a e1 e2
        show w_X4_common_27 post (k + 1) M _ _ _ (nI a + 1)
        rw [nI_1]; exact ih (a + 1) a (by omega) (fun q => by omega)
      · rw [if_neg e2]
        refine ⟨fun _ => keep (fun q => ?_), fun q => absurd rfl q⟩
        by_cases e : c = a
        · subst e; exact absurd h2 e2
        · exact hab (by omega)
    · rw [if_neg e1]
      refine ⟨fun _ => keep (fun q => ?_), fun q => absurd rfl q⟩
      by_cases e : c = a
      · subst e; exact absurd h1 e1
      · exact hab (by omega)
theorem pm_common (hR : RelM M S) (h : ∀ M', RelM M' (sp_common S x1 x2).2 → post (sp_common S x1 x2).1 M') : w_X4_common post M x1 x2 := by
  unfold sp_common at h
  refine pm_isV hR (fun h0 h1 => ⟨fun q => absurd q (by decide), fun _ => ?_⟩) (fun hb => ⟨fun _ => ?_, fun q => absurd rfl q⟩)
  · rw [if_neg (noV_f h0 h1)] at h
    refine pm_isV hR (fun g0 g1 => ⟨fun _ => ?_, fun q => absurd q (by decide)⟩) (fun hb => ⟨fun q => absurd rfl q, fun _ => ?_⟩)
    · rw [if_neg (noV_f g0 g1)] at h
      obtain ⟨b1, b2, b3, b4⟩ := hR.hist h0 h1
      obtain ⟨d1, d2, d3, d4⟩ := hR.hist g0 g1
      have hh := h M hR
      obtain ⟨p1, p2, p3⟩ := cmF_spec (q := sP S) (x1.toNatClampNeg + x2.toNatClampNeg + 1) x1.toNatClampNeg x2.toNatClampNeg (by omega) (fun t ht h0 => hR.inv.2.2.2.2.2.1 t (by omega) h0)
      refine ⟨sV S + 1, ?_⟩
      rw [show x1 = nI x1.toNatClampNeg from (nI_tn h0).symm, show x2 = nI x2.toNatClampNeg from (nI_tn g0).symm]
      exact lm_com hR b2 d2 p1 p2 p3 hh (sV S) 0 0 (by omega) (fun q => by omega)
    · rw [if_pos (noV_t hb)] at h
      exact pm_ans (k := 1) hR (by decide) (by decide) h
  · rw [if_pos (noV_t hb)] at h
    exact pm_ans (k := 1) hR (by decide) (by decide) h
end PMB
