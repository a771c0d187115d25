/-! ===== the k-th ===== -/
def cntLt (X : Nat → Nat) (a n t : Nat) : Nat := cntF (fun i => decide (X i < t)) a n
def kthV (X : Nat → Nat) (a n k : Nat) : Nat := fstF (fun v => decide (k < cntLt X a n (v + 1))) 1024
def stF (X : Nat → Nat) (a n v top s : Nat) : Nat := cntF (fun i => decide (X i / 2 ^ (top - s + 1) = v / 2 ^ (top - s + 1)) && decide (X i / 2 ^ (top - s) % 2 = 0)) a n
def sp_find (S : Sh) (x1 : Int32) (a n k : Nat) : Int32 × Sh := (nI (kthV (sX S (vr S x1)) a n k), stepS S (fun s => nI (stF (sX S (vr S x1)) a n (kthV (sX S (vr S x1)) a n k) (tp S x1) s)) (tp S x1 + 1))
def sp_kth (S : Sh) (x1 x2 x3 x4 : Int32) : Int32 × Sh := sp_span S x1 x2 x3 (if x4 < 0 then tl S 6 else if nI (sa x3 - sa x2) ≤ x4 then tl S 6 else sp_find S x1 (sa x2) (sa x3 - sa x2) x4.toNatClampNeg)
def sp_median (S : Sh) (x1 x2 x3 : Int32) : Int32 × Sh := sp_span S x1 x2 x3 (if x2 = x3 then tl S 6 else sp_find S x1 (sa x2) (sa x3 - sa x2) ((sa x3 - sa x2 - 1) / 2))
theorem cntF_mono {p q : Nat → Bool} : ∀ k a, (∀ i, a ≤ i → i < a + k → p i = true → q i = true) → cntF p a k ≤ cntF q a k := by
  intro k
  induction k with
  | zero => intro a _; exact Nat.le_refl 0
  | succ k ih =>
    intro a h
    have h1 := ih (a + 1) (fun i g1 g2 => h i (by omega) (by omega))
    have h2 := h a (by omega) (by omega)
    rw [cntF_succ, cntF_succ]
    by_cases e : p a = true
    · rw [if_pos e, if_pos (h2 e)]; omega
    · rw [if_neg e]; split <;> omega
theorem cntF_add {p q r : Nat → Bool} : ∀ k a, (∀ i, a ≤ i → i < a + k → p i = (q i || r i) ∧ ¬ (q i = true ∧ r i = true)) → cntF p a k = cntF q a k + cntF r a k := by
  intro k
  induction k with
  | zero => intro a _; rfl
  | succ k ih =>
    intro a h
    have h1 := ih (a + 1) (fun i g1 g2 => h i (by omega) (by omega))
    obtain ⟨h2, h3⟩ := h a (by omega) (by omega)
    rw [cntF_succ, cntF_succ, cntF_succ, h1, h2]
    cases hq : q a <;> cases hr : r a <;> simp_all <;> omega
theorem cntF_all {p : Nat → Bool} : ∀ k a, (∀ i, a ≤ i → i < a + k → p i = true) → cntF p a k = k := by
  intro k
  induction k with
  | zero => intro a _; rfl
  | succ k ih =>
    intro a h
    rw [cntF_succ, ih (a + 1) (fun i g1 g2 => h i (by omega) (by omega)), if_pos (h a (by omega) (by omega))]; omega
theorem cntF_none {p : Nat → Bool} : ∀ k a, (∀ i, a ≤ i → i < a + k → p i = false) → cntF p a k = 0 := by
  intro k
  induction k with
  | zero => intro a _; rfl
  | succ k ih =>
    intro a h
    rw [cntF_succ, ih (a + 1) (fun i g1 g2 => h i (by omega) (by omega)), if_neg (by rw [h a (by omega) (by omega)]; simp)]
/-- the k-th value, by how many are below -/
theorem kthV_iff {X : Nat → Nat} {a n k : Nat} (hX : ∀ i, a ≤ i → i < a + n → X i < 1024) (hk : k < n) : kthV X a n k < 1024 ∧ ∀ t, (t ≤ kthV X a n k ↔ cntLt X a n t ≤ k) := by
  have hall : cntLt X a n 1024 = n := cntF_all n a (fun i h1 h2 => by simpa using hX i h1 h2)
  have hlt : kthV X a n k < 1024 := by
    rcases Nat.lt_or_ge (kthV X a n k) 1024 with h | h
    · exact h
    · have := fa_first_no (fun v => decide (k < cntLt X a n (v + 1))) 1024 1023 (by unfold kthV fstF at h; omega)
      simp [hall] at this
      omega
  refine ⟨hlt, fun t => ⟨fun h => ?_, fun h => ?_⟩⟩
  · rcases Nat.eq_zero_or_pos t with e | e
    · subst e
      have : cntLt X a n 0 = 0 := cntF_none n a (fun i _ _ => by simp)
      omega
    · have := fa_first_no (fun v => decide (k < cntLt X a n (v + 1))) 1024 (t - 1) (by unfold kthV fstF at h; omega)
      rw [show t - 1 + 1 = t by omega] at this
      simpa using this
  · rcases Nat.lt_or_ge (kthV X a n k) t with q | q
    · have h1 := fa_first_yes (fun v => decide (k < cntLt X a n (v + 1))) 1024 hlt
      have h2 : k < cntLt X a n (kthV X a n k + 1) := of_decide_eq_true h1
      have h3 : cntLt X a n (kthV X a n k + 1) ≤ cntLt X a n t := cntF_mono n a (fun i _ _ h => by simp at h ⊢; omega)
      omega
    · exact q
theorem bit_rng {x q P : Nat} (hP : 0 < P) : (x / (P * 2) = q ∧ x / P % 2 = 0) ↔ (q * (P * 2) ≤ x ∧ x < q * (P * 2) + P) := by
  rw [← Nat.div_div_eq_div_mul]
  have e1 : q * (P * 2) = (2 * q) * P := by rw [Nat.mul_comm P 2, ← Nat.mul_assoc, Nat.mul_comm q 2]
  have e2 : (2 * q) * P + P = (2 * q + 1) * P := by rw [Nat.add_mul, Nat.one_mul]
  rw [e1, e2, ← Nat.le_div_iff_mul_le hP, ← Nat.div_lt_iff_lt_mul hP]
  omega
theorem kth_step {v P R : Nat} (hP : 0 < P) (hR : R = v / (P * 2) * (P * 2)) : (R + P ≤ v → v / P * P = R + P) ∧ (¬ R + P ≤ v → v / P * P = R) := by
  have h1 : R ≤ v ∧ v < R + P * 2 := by
    rw [hR]
    have h2 := Nat.div_add_mod v (P * 2)
    have h3 := Nat.mod_lt v (show 0 < P * 2 by omega)
    rw [Nat.mul_comm] at h2
    omega
  have e1 : R = (2 * (v / (P * 2))) * P := by rw [hR, Nat.mul_comm P 2, ← Nat.mul_assoc, Nat.mul_comm _ 2]
  generalize v / (P * 2) = q at e1
  refine ⟨fun h => ?_, fun h => ?_⟩
  · have : v / P = 2 * q + 1 := by
      apply Nat.le_antisymm
      · rw [← Nat.lt_succ_iff, Nat.div_lt_iff_lt_mul hP]
        have : (2 * q + 1).succ * P = R + P * 2 := by rw [e1, Nat.succ_eq_add_one, Nat.add_mul, Nat.add_mul, Nat.one_mul]; omega
        omega
      · rw [Nat.le_div_iff_mul_le hP]
        have : (2 * q + 1) * P = R + P := by rw [e1, Nat.add_mul, Nat.one_mul]
        omega
    rw [this, e1, Nat.add_mul, Nat.one_mul]
  · have : v / P = 2 * q := by
      apply Nat.le_antisymm
      · rw [← Nat.lt_succ_iff, Nat.div_lt_iff_lt_mul hP]
        have : (2 * q).succ * P = R + P := by rw [e1, Nat.succ_eq_add_one, Nat.add_mul, Nat.one_mul]
        omega
      · rw [Nat.le_div_iff_mul_le hP]
        omega
    rw [this, e1]
section CKTH
variable {post : Int32 → CS → Prop} {C C0 : CS} {S : Sh} {X : Nat → Nat} {x1 x2 x3 x4 : Int32}
theorem lp_down {i j k v top L : Nat} (hX : ∀ m, m < L → cr C0 5 m = nI (X m) ∧ X m < 1024) (hL : L ≤ 400) (hj : j ≤ L) (hij : i ≤ j) (hk : k < 2147483648) (htop : top ≤ 9) (hv1 : v < 2 ^ (top + 1)) (hv : ∀ t, (t ≤ v ↔ cntLt X i (j - i) t ≤ k))
    (hp : ∀ C', SameX [2] [15] C0 C' → cz C' 2 = nI (top + 1) → (∀ s, s < top + 1 → cr C' 15 s = nI (stF X i (j - i) v top s)) → post (nI v) C') :
    ∀ d l R rest C, l + d = top + 1 → R = v / 2 ^ (top + 1 - l) * 2 ^ (top + 1 - l) → rest + cntLt X i (j - i) R = k → SameX [2] [15] C0 C → (∀ s, s < l → cr C 15 s = nI (stF X i (j - i) v top s)) → w_X3_goDown_9 post (d + 1) C (nI i) (nI j) (nI top) (nI R) (nI rest) (nI l) := by
  have hv10 : v < 1024 := Nat.lt_of_lt_of_le hv1 (Nat.pow_le_pow_right (by omega) (show top + 1 ≤ 10 by omega))
  intro d
  induction d with
  | zero =>
    intro l R rest C hl hRv hrest hs hst
    have e : l = top + 1 := by omega
    subst e
    have eR : R = v := by rw [hRv, Nat.sub_self]; simp
    subst eR
    refine ⟨fun _ => ?_, fun q => absurd (nI_lt (by omega) (by omega)) q⟩
    rw [nI_1]
    exact hp _ (hs.tr (SameX.z (by decide))) (by show va_up (cz C) 2 (nI (top + 1)) 2 = _; rw [va_up_self]) hst
  | succ d ih =>
    intro l R rest C hl hRv hrest hs hst
    have hlt : l ≤ top := by omega
    have eP : top + 1 - l = (top - l) + 1 := by omega
    have hP : 0 < 2 ^ (top - l) := Nat.two_pow_pos _
    have hP2 : 2 ^ (top - l) ≤ 512 := Nat.pow_le_pow_right (by omega) (show top - l ≤ 9 by omega)
    rw [eP, Nat.pow_succ] at hRv
    have hRle : R ≤ v := by rw [hRv]; exact Nat.div_mul_le_self v _
    have esh : (1 : Int32) <<< ((nI top - nI l) &&& 31) = nI (2 ^ (top - l)) := by
      rw [pk_sub hlt, show (1 : Int32) = nI 1 from rfl, pk_shlN _ (top - l) (sh_s _ (by omega)) (by omega), Nat.one_mul]
    have hkk := kth_step hP hRv
    refine ⟨fun q => absurd q (nI_nlt (by omega) (by omega)), fun _ => ?_⟩
    rw [esh, nI_add, show (1 : Int32) = nI 1 from rfl, pk_sub (by omega)]
    have ecnt : cntF (fun m => decide (nI R ≤ nI (X m)) && decide (nI (X m) ≤ nI (R + 2 ^ (top - l) - 1))) i (j - i) = stF X i (j - i) v top l := by
      refine cntF_congr (fun m h1 h2 => ?_)
      have hx := (hX m (by omega)).2
      have hb := bit_rng (x := X m) (q := v / (2 ^ (top - l) * 2)) hP
      rw [← hRv] at hb
      rw [Nat.pow_succ]
      rw [← Bool.decide_and, ← Bool.decide_and]
      congr 1
      apply propext
      rw [hb, nI_leI (by omega) (by omega), nI_leI (by omega) (by omega)]
      omega
    have eadd : cntLt X i (j - i) (R + 2 ^ (top - l)) = cntLt X i (j - i) R + stF X i (j - i) v top l := by
      refine cntF_add (j - i) i (fun m h1 h2 => ?_)
      have hb := bit_rng (x := X m) (q := v / (2 ^ (top - l) * 2)) hP
      rw [← hRv] at hb
      show decide _ = (decide _ || (decide (X m / 2 ^ (top - l + 1) = v / 2 ^ (top - l + 1)) && decide (X m / 2 ^ (top - l) % 2 = 0))) ∧ ¬ (decide _ = true ∧ (decide (X m / 2 ^ (top - l + 1) = v / 2 ^ (top - l + 1)) && decide (X m / 2 ^ (top - l) % 2 = 0)) = true)
      rw [Nat.pow_succ, ← Bool.decide_and, ← Bool.decide_or]
      refine ⟨?_, fun z => ?_⟩
      · congr 1
        apply propext
        rw [hb]
        omega
      · simp only [decide_eq_true_eq] at z
        rw [hb] at z
        omega
    have hstl : stF X i (j - i) v top l ≤ j - i := cntF_le _ _
    have hdec : stF X i (j - i) v top l ≤ rest ↔ R + 2 ^ (top - l) ≤ v := by
      rw [hv _, eadd]; omega
    refine ⟨j - i + 1, lp_within (post := fun r3 C2 => vp_in (nI l) 10 ∧ ((nI rest < r3 → (w_X3_goDown_75 post (w_X3_goDown_9 post (d + 1)) (cru C2 15 (upd (cr C2 15) (Int32.toNatClampNeg (nI l)) r3)) (nI i) (nI j) (nI top) (nI R) (nI rest) (nI l))) ∧ (¬ nI rest < r3 → (w_X3_goDown_75 post (w_X3_goDown_9 post (d + 1)) (cru C2 15 (upd (cr C2 15) (Int32.toNatClampNeg (nI l)) r3)) (nI i) (nI j) (nI top) (nI (R + 2 ^ (top - l))) (nI rest - r3) (nI l))))) (X := X) (fun m hm => ?_) hL hj (j - i) i 0 (by omega) ?_⟩
    · rw [hs.2.1 5 (by decide)]; exact (hX m hm).1
    · show vp_in (nI l) 10 ∧ _
      rw [fold_acc, Nat.zero_add, ecnt, tn_nI (by omega)]
      have hst' : ∀ s, s < l + 1 → upd (cr C 15) l (nI (stF X i (j - i) v top l)) s = nI (stF X i (j - i) v top s) := fun s hs2 => by
        by_cases e : s = l
        · subst e; rw [pk_us]
        · rw [pk_un e]; exact hst s (by omega)
      refine ⟨vin_nI (by omega) (by omega), fun q => ?_, fun q => ?_⟩
      · rw [nI_ltI (by omega) (by omega)] at q
        have hn : ¬ R + 2 ^ (top - l) ≤ v := fun z => by have := hdec.mpr z; omega
        show w_X3_goDown_9 post (d + 1) _ _ _ _ _ _ (nI l + 1)
        rw [nI_1]
        refine ih (l + 1) R rest _ (by omega) ?_ hrest (hs.tr (SameX.r (by decide))) hst'
        rw [show top + 1 - (l + 1) = top - l by omega]; exact (hkk.2 hn).symm
      · rw [nI_ltI (by omega) (by omega)] at q
        have hy : R + 2 ^ (top - l) ≤ v := hdec.mp (by omega)
        show w_X3_goDown_9 post (d + 1) _ _ _ _ _ _ (nI l + 1)
        rw [nI_1, pk_sub (by omega)]
        refine ih (l + 1) _ _ _ (by omega) ?_ (by rw [eadd]; omega) (hs.tr (SameX.r (by decide))) hst'
        rw [show top + 1 - (l + 1) = top - l by omega]; exact (hkk.1 hy).symm
theorem RelC.step {C C' : CS} {S : Sh} (hR : RelC C S) (hs : SameX [2] [15] C C') {t : Nat → Int32} {n : Nat} (hn : n ≤ 10) (h2 : cz C' 2 = nI n) (ht : ∀ s, s < n → cr C' 15 s = t s) : RelC C' (stepS S t n) := by
  obtain ⟨hI, hcn, hz0, hz1, hz2, hsh, hhi, ho1, ho2, hst, hfo, ke, hV⟩ := hR
  obtain ⟨b1, b2, b3, b4, b5, b6, b7, b8, b9⟩ := hI
  unfold RelC
  rw [hs.1 0 (by decide), hs.1 1 (by decide), hs.2.1 3 (by decide), hs.2.1 16 (by decide), hs.co, hs.cn, hs.cf, hs.cp, hs.ck, hs.cv, hs.cw]
  exact ⟨⟨b1, b2, b3, b4, b5, b6, b7, b8, hn⟩, hcn, hz0, hz1, h2, hsh, hhi, ho1, ho2, ht, hfo, ke, hV⟩
/-- goDown over a span that lies on the sheet -/
theorem pc_down (hR : RelC C S) (h0 : fL S x1 = 0) {i j k : Nat} (hij : i ≤ j) (hj : j ≤ sL S (vr S x1)) (hk : k < j - i) (hF : ∀ m, m < sL S (vr S x1) → cr C 5 m = nI (sX S (vr S x1) m) ∧ cr C 6 m = sW S (vr S x1) m) (h : ∀ C', RelC C' (sp_find S x1 i (j - i) k).2 → post (sp_find S x1 i (j - i) k).1 C') : w_X3_goDown post C (nI i) (nI j) (nI k) (nI (tp S x1)) := by
  obtain ⟨hi, a1, a2, a3, a4, a5, a6, a7, a8⟩ := hR.at h0
  have hx : ∀ m, m < sL S (vr S x1) → sX S (vr S x1) m < 1024 := fun m hm => hR.inv.2.2.2.2.2.2.1 _ m a3 hm
  obtain ⟨hv, hiff⟩ := kthV_iff (X := sX S (vr S x1)) (a := i) (n := j - i) (k := k) (fun m h1 h2 => hx m (by omega)) hk
  have htp := tp_le S x1
  have hv1 : kthV (sX S (vr S x1)) i (j - i) k < 2 ^ (tp S x1 + 1) := by
    unfold tp
    by_cases e : sK S x1.toNatClampNeg = 3
    · rw [if_pos e]
      have h256 := (hR.inv.2.2.2.2.2.2.2.1 _ (vin_tn hi).1).2.2 e
      have hc : cntLt (sX S (vr S x1)) i (j - i) 256 = j - i := cntF_all _ _ (fun m h1 h2 => decide_eq_true (h256 m (show m < sL S (vr S x1) by omega)))
      rcases Nat.lt_or_ge (kthV (sX S (vr S x1)) i (j - i) k) 256 with q | q
      · exact q
      · have := (hiff 256).mp q; omega
    · rw [if_neg e]; exact hv
  refine ⟨tp S x1 + 1 + 1, ?_⟩
  refine lp_down (X := sX S (vr S x1)) (C0 := C) (L := sL S (vr S x1)) (v := kthV (sX S (vr S x1)) i (j - i) k) (fun m hm => ⟨(hF m hm).1, hx m hm⟩) a6 hj hij (by omega) htp hv1 hiff (fun C' hs hz hst => h C' (hR.step hs (by omega) hz hst)) (tp S x1 + 1) 0 0 k C (by omega) ?_ ?_ SameX.rf (fun s hs => by omega)
  · rw [Nat.sub_zero, Nat.div_eq_of_lt hv1, Nat.zero_mul]
  · have : cntLt (sX S (vr S x1)) i (j - i) 0 = 0 := cntF_none _ _ (fun i _ _ => by simp)
    omega
theorem pc_kth (hR : RelC C S) (h : ∀ C', RelC C' (sp_kth S x1 x2 x3 x4).2 → post (sp_kth S x1 x2 x3 x4).1 C') : w_X3_kth post C x1 x2 x3 x4 := by
  unfold sp_kth sp_span at h
  refine pc_laySpan hR (fun e => ⟨fun _ => ⟨fun q => absurd ((ng_ne _ (fS_le S x1 x2 x3)).mp q) e, fun _ => ?_⟩, fun q => absurd ((ng_ne _ (fS_le S x1 x2 x3)).mp q) e⟩) (fun C' i j e ei ej hij hjl hL hv hs hz hF hR' => ⟨fun q => absurd rfl q, fun _ => ?_⟩)
  · rw [if_neg e] at h; exact pc_told hR (fS_le S x1 x2 x3) e h
  · subst ei ej
    rw [if_pos e, sa_nI (by omega), sa_nI (by omega)] at h
    have hno : (∀ C', RelC C' (tl S 6).2 → post (tl S 6).1 C') → w_X3_kth_27 post C' x1 (nI i) (nI j) x4 := fun h6 => ⟨fun q => absurd q (by decide), fun _ => pc_told (k := 6) hR' (by decide) (by decide) h6⟩
    refine ⟨fun g => ?_, fun g => ⟨fun g2 => ?_, fun g2 => ?_⟩⟩
    · rw [if_pos g] at h; exact hno h
    · rw [pk_sub hij] at g2
      rw [if_neg g, if_neg (Int32.not_le.mpr g2)] at h
      have h4 := tn_int g
      rw [fa_lt, nI_toInt (by omega)] at g2
      refine ⟨fun _ => pc_top hR' (fS_0 e).1 ?_, fun q => absurd rfl q⟩
      rw [show x4 = nI x4.toNatClampNeg from (nI_tn g).symm]
      exact pc_down hR' (fS_0 e).1 hij hjl (by omega) hF h
    · rw [pk_sub hij] at g2
      rw [if_neg g, if_pos (Int32.not_lt.mp g2)] at h; exact hno h
theorem pc_median (hR : RelC C S) (h : ∀ C', RelC C' (sp_median S x1 x2 x3).2 → post (sp_median S x1 x2 x3).1 C') : w_X3_median post C x1 x2 x3 := by
  unfold sp_median sp_span at h
  refine pc_laySpan hR (fun e => ⟨fun _ => ⟨fun q => absurd ((ng_ne _ (fS_le S x1 x2 x3)).mp q) e, fun _ => ?_⟩, fun q => absurd ((ng_ne _ (fS_le S x1 x2 x3)).mp q) e⟩) (fun C' i j e ei ej hij hjl hL hv hs hz hF hR' => ⟨fun q => absurd rfl q, fun _ => ?_⟩)
  · rw [if_neg e] at h; exact pc_told hR (fS_le S x1 x2 x3) e h
  · subst ei ej
    rw [if_pos e, sa_nI (by omega), sa_nI (by omega)] at h
    refine ⟨fun g => ⟨fun _ => pc_top hR' (fS_0 e).1 ?_, fun q => absurd rfl q⟩, fun g => ⟨fun q => absurd q (by decide), fun _ => ?_⟩⟩
    · rw [if_neg g] at h
      rw [nI_eq (by omega) (by omega)] at g
      rw [pk_sub hij, show (1 : Int32) = nI 1 from rfl, pk_sub (by omega), show (2 : Int32) = nI 2 from rfl, pk_div (by omega) (by omega) (by omega)]
      exact pc_down hR' (fS_0 e).1 hij hjl (by omega) hF h
    · rw [if_pos g] at h
      exact pc_told (k := 6) hR' (by decide) (by decide) h
end CKTH
