/-! ===== the reference's k-th ===== -/
theorem RelM.steps {M M' : MS} {S : Sh} (hR : RelM M S) (hs : SameY [14] [13] M M') {t : Nat → Int32} {n : Nat} (hn : n ≤ 10) (h14 : mz M' 14 = nI n) (ht : ∀ s, s < n → mr M' 13 s = t s) : RelM M' (stepS S t n) := by
  obtain ⟨hI, h0, h7, h14', he, hvv, hp, hs2, hf⟩ := hR
  obtain ⟨b1, b2, b3, b4, b5, b6, b7, b8, b9⟩ := hI
  unfold RelM
  rw [hs.1 0 (by decide), hs.1 6 (by decide), hs.1 7 (by decide), hs.2 1 (by decide), hs.2 2 (by decide), hs.2 3 (by decide), hs.2 4 (by decide), hs.2 5 (by decide), hs.2 8 (by decide), hs.2 9 (by decide), hs.2 10 (by decide), hs.2 11 (by decide), hs.2 12 (by decide), hs.2 15 (by decide)]
  exact ⟨⟨b1, b2, b3, b4, b5, b6, b7, b8, hn⟩, h0, h7, h14, he, hvv, hp, ht, hf⟩
theorem shr_s {x s : Nat} (hx : x < 1024) (hs : s < 32) : nI x >>> (nI s &&& 31) = nI (x / 2 ^ s) := pk_shrN (by omega) _ s (sh_s s hs)
theorem shr_ne {x v s : Nat} (hx : x < 1024) (hv : v < 1024) (hs : s < 32) : nI x >>> (nI s &&& 31) = nI v >>> (nI s &&& 31) ↔ x / 2 ^ s = v / 2 ^ s := by
  have h1 : x / 2 ^ s ≤ x := Nat.div_le_self _ _
  have h2 : v / 2 ^ s ≤ v := Nat.div_le_self _ _
  rw [shr_s hx hs, shr_s hv hs, nI_eq (by omega) (by omega)]
section PMG
variable {post : Int32 → MS → Prop} {M M0 : MS} {S : Sh} {x1 x2 x3 x4 x5 : Int32}
theorem lm_106 {K80 : MS → Int32 → Int32 → Int32 → Int32 → Int32 → Prop} {i j v s b : Nat} (hR : RelM M S) (h0 : fL S x1 = 0) (hj : j ≤ sL S (vr S x1)) (hv : v < 1024) (hb : b ≤ 9) (hs : s < 10) : ∀ k a n, a + k = j → K80 (mru M 13 (upd (mr M 13) s (nI (fold (fun m n => if (decide (sX S (vr S x1) m / 2 ^ (b + 1) = v / 2 ^ (b + 1)) && decide (sX S (vr S x1) m / 2 ^ b % 2 = 0)) = true then n + 1 else n) a k n)))) x1 (nI i) (nI j) (nI v) (nI (s + 1)) → w_X4_find_106 post K80 (k + 1) M x1 (nI i) (nI j) (nI v) (nI s) (nI b) (nI n) (nI a) := by
  obtain ⟨hi1, a1, a2, a3, a4, a5⟩ := hR.at h0
  intro k
  induction k with
  | zero =>
    intro a n ha h
    refine ⟨fun _ => ⟨vin_nI (by omega) (by omega), ?_⟩, fun q => absurd (nI_le (by omega) (by omega)) q⟩
    rw [tn_nI (by omega), nI_1]; exact h
  | succ k ih =>
    intro a n ha h
    rw [fold] at h
    have hx := hR.inv.2.2.2.2.2.2.1 _ a a2 (by omega)
    have hb2 : sX S (vr S x1) a / 2 ^ b % 2 < 2 := Nat.mod_lt _ (by omega)
    refine ⟨fun q => absurd q (nI_ge (by omega) (by omega)), fun _ => pm_val hR h0 (by omega) ?_⟩
    show (¬ nI (sX S (vr S x1) a) >>> ((nI b + 1) &&& 31) = nI v >>> ((nI b + 1) &&& 31) → w_X4_find_106 post K80 (k + 1) M x1 (nI i) (nI j) (nI v) (nI s) (nI b) (nI n + nI 0) (nI a + 1)) ∧ (nI (sX S (vr S x1) a) >>> ((nI b + 1) &&& 31) = nI v >>> ((nI b + 1) &&& 31) → ((¬ (nI (sX S (vr S x1) a) >>> (nI b &&& 31)) &&& (1 : Int32) = nI 0 → w_X4_find_106 post K80 (k + 1) M x1 (nI i) (nI j) (nI v) (nI s) (nI b) (nI n + nI 0) (nI a + 1)) ∧ ((nI (sX S (vr S x1) a) >>> (nI b &&& 31)) &&& (1 : Int32) = nI 0 → w_X4_find_106 post K80 (k + 1) M x1 (nI i) (nI j) (nI v) (nI s) (nI b) (nI n + nI 1) (nI a + 1))))
    rw [nI_1, nI_1, nI_add, nI_add, shr_ne hx hv (by omega), bit_s hx (by omega), nI_eq (by omega) (by omega)]
    refine ⟨fun q => ?_, fun q => ⟨fun q2 => ?_, fun q2 => ?_⟩⟩
    · rw [if_neg (by simp [q])] at h; exact ih (a + 1) n (by omega) h
    · rw [if_neg (by simp; omega)] at h; exact ih (a + 1) n (by omega) h
    · rw [if_pos (by simp [q, q2])] at h; exact ih (a + 1) (n + 1) (by omega) h
theorem lm_80 {i j v : Nat} (hR : RelM M0 S) (h0 : fL S x1 = 0) (hij : i ≤ j) (hj : j ≤ sL S (vr S x1)) (hv : v < 1024) (h : ∀ M', RelM M' (stepS S (fun s => nI (stF (sX S (vr S x1)) i (j - i) v (tp S x1) s)) (tp S x1 + 1)) → post (nI v) M') : ∀ d s M, s + d = tp S x1 + 1 → SameY [14] [13] M0 M → mz M 14 = nI (tp S x1 + 1) → (∀ u, u < s → mr M 13 u = nI (stF (sX S (vr S x1)) i (j - i) v (tp S x1) u)) → w_X4_find_80 post (d + 1) M x1 (nI i) (nI j) (nI v) (nI s) := by
  have htp := tp_le S x1
  intro d
  induction d with
  | zero =>
    intro s M hs hy hz ht
    have e : s = tp S x1 + 1 := by omega
    subst e
    refine ⟨fun _ => h M (hR.steps hy (by omega) hz ht), fun q => absurd (by rw [hz]; exact nI_le (by omega) (by omega)) q⟩
  | succ d ih =>
    intro s M hs hy hz ht
    have hR1 : RelM M (stepS S (mr M 13) (tp S x1 + 1)) := hR.steps hy (by omega) hz (fun _ _ => rfl)
    refine ⟨fun q => absurd q (by rw [hz]; exact nI_ge (by omega) (by omega)), fun _ => ⟨j - i + 1, ?_⟩⟩
    rw [hz, show (1 : Int32) = nI 1 from rfl, pk_sub (by omega), Nat.add_sub_cancel, pk_sub (by omega)]
    refine lm_106 (S := stepS S (mr M 13) (tp S x1 + 1)) hR1 h0 hj hv (by omega) (by omega) (j - i) i 0 (by omega) ?_
    refine ih (s + 1) _ (by omega) (hy.tr (SameY.r (by decide))) hz (fun u hu => ?_)
    show upd (mr M 13) s _ u = _
    by_cases e : u = s
    · subst e; rw [pk_us]; rfl
    · rw [pk_un e]; exact ht u (by omega)
theorem cntLt_succ {X : Nat → Nat} {a n v : Nat} : cntLt X a n (v + 1) = cntLt X a n v + cnt X a n v := cntF_add n a (fun i _ _ => by
  refine ⟨?_, fun z => ?_⟩
  · rw [← Bool.decide_or]; exact decide_eq_decide.mpr (by omega)
  · simp only [decide_eq_true_eq] at z; omega)
theorem lm_38 {i j k v : Nat} (hR : RelM M S) (h0 : fL S x1 = 0) (hij : i ≤ j) (hj : j ≤ sL S (vr S x1)) (hk : k < 400) (hc : ∀ v, v < 1024 → mr M 18 v = nI (cnt (sX S (vr S x1)) i (j - i) v)) (hv : v < 1024) (hiff : ∀ t, (t ≤ v ↔ cntLt (sX S (vr S x1)) i (j - i) t ≤ k)) (h : ∀ M', RelM M' (stepS S (fun s => nI (stF (sX S (vr S x1)) i (j - i) v (tp S x1) s)) (tp S x1 + 1)) → post (nI v) M') : ∀ d u left, u + d = v → left + cntLt (sX S (vr S x1)) i (j - i) u = k → w_X4_find_38 post (d + 1) M x1 (nI i) (nI j) (nI u) (nI left) := by
  have a3 := (hR.at h0).2.2.2.1
  have htp := tp_le S x1
  intro d
  induction d with
  | zero =>
    intro u left hu hl
    have e : u = v := by omega
    subst e
    have h1 : ¬ cntLt (sX S (vr S x1)) i (j - i) (u + 1) ≤ k := fun z => absurd ((hiff (u + 1)).mpr z) (by omega)
    rw [cntLt_succ] at h1
    have hcl : cnt (sX S (vr S x1)) i (j - i) u ≤ j - i := cnt_le
    refine ⟨vin_nI hv (by omega), fun _ => pm_bits hR h0 ⟨tp S x1 + 1 + 1, ?_⟩, fun q => absurd (by rw [tn_nI (by omega), hc u hv]; exact nI_lt (by omega) (by omega)) q⟩
    exact lm_80 hR h0 hij hj hv h (tp S x1 + 1) 0 (mzu M 14 (nI (tp S x1 + 1))) (by omega) (SameY.z (by decide)) (by show va_up (mz M) 14 (nI (tp S x1 + 1)) 14 = nI (tp S x1 + 1); rw [va_up_self]) (fun u hu => by omega)
  | succ d ih =>
    intro u left hu hl
    have h1 := (hiff (u + 1)).mp (by omega)
    rw [cntLt_succ] at h1
    refine ⟨vin_nI (by omega) (by omega), fun q => absurd q (by rw [tn_nI (by omega), hc u (by omega)]; exact nI_nlt (by omega) (by omega)), fun _ => ?_⟩
    rw [tn_nI (by omega), hc u (by omega), nI_1, pk_sub (by omega)]
    exact ih (u + 1) _ (by omega) (by rw [cntLt_succ]; omega)
theorem pm_find (hR : RelM M S) (h0 : fL S x1 = 0) {i j : Nat} (hij : i ≤ j) (hj : j ≤ sL S (vr S x1)) (h : ∀ M', RelM M' (if x4 < 0 then tl S 6 else if nI (j - i) ≤ x4 then tl S 6 else sp_find S x1 i (j - i) x4.toNatClampNeg).2 → post (if x4 < 0 then tl S 6 else if nI (j - i) ≤ x4 then tl S 6 else sp_find S x1 i (j - i) x4.toNatClampNeg).1 M') : w_X4_find post M x1 (nI i) (nI j) x4 := by
  obtain ⟨hi1, a1, a2, a3, a4, a5⟩ := hR.at h0
  unfold w_X4_find
  rw [pk_sub hij]
  refine ⟨fun q => ?_, fun q => ⟨fun q2 => ?_, fun q2 => ?_⟩⟩
  · rw [if_pos q] at h; exact pm_ans (k := 6) hR (by decide) (by decide) h
  · rw [if_neg q, if_neg (Int32.not_le.mpr q2)] at h
    have h4 := tn_int q
    rw [fa_lt, nI_toInt (by omega)] at q2
    obtain ⟨k, hk⟩ : ∃ k, x4.toNatClampNeg = k := ⟨_, rfl⟩
    have ex : x4 = nI k := by rw [← hk]; exact (nI_tn q).symm
    rw [hk] at h h4
    rw [ex]
    refine pm_count18 hR h0 hij hj (fun M1 hR1 hs1 hc => ?_)
    obtain ⟨hv, hiff⟩ := kthV_iff (X := sX S (vr S x1)) (a := i) (n := j - i) (k := k) (fun m h1 h2 => hR.inv.2.2.2.2.2.2.1 _ m a2 (by omega)) (by omega)
    unfold sp_find at h
    obtain ⟨v, hve⟩ : ∃ v, kthV (sX S (vr S x1)) i (j - i) k = v := ⟨_, rfl⟩
    rw [hve] at hv hiff h
    refine ⟨v + 1, lm_38 hR1 h0 hij hj (by omega) hc hv hiff h v 0 k (by omega) ?_⟩
    have : cntLt (sX S (vr S x1)) i (j - i) 0 = 0 := cntF_none _ _ (fun i _ _ => by simp)
    omega
  · rw [if_neg q, if_pos (Int32.not_lt.mp q2)] at h; exact pm_ans (k := 6) hR (by decide) (by decide) h
theorem pm_kth (hR : RelM M S) (h : ∀ M', RelM M' (sp_kth S x1 x2 x3 x4).2 → post (sp_kth S x1 x2 x3 x4).1 M') : w_X4_kth post M x1 x2 x3 x4 := by
  unfold sp_kth sp_span at h
  refine pm_atSpan hR (fun e => ⟨fun q => absurd q (ng_nn (fS_le S x1 x2 x3) e), fun _ => ?_⟩) (fun i j e ei ej hij hjl hL hv h0 => ⟨fun _ => ?_, fun q => absurd (by decide) q⟩)
  · rw [if_neg e] at h; exact pm_ans hR (fS_le S x1 x2 x3) e h
  · subst ei ej
    rw [if_pos e, sa_nI (by omega), sa_nI (by omega)] at h
    exact pm_find hR h0 hij hjl h
theorem pm_median (hR : RelM M S) (h : ∀ M', RelM M' (sp_median S x1 x2 x3).2 → post (sp_median S x1 x2 x3).1 M') : w_X4_median post M x1 x2 x3 := by
  unfold sp_median sp_span at h
  refine pm_atSpan hR (fun e => ⟨fun _ => ?_, fun q => absurd ((ng_lt _ (fS_le S x1 x2 x3)).1.mpr e) q⟩) (fun i j e ei ej hij hjl hL hv h0 => ⟨fun q => absurd q (by decide), fun _ => ⟨fun q => ?_, fun q => ?_⟩⟩)
  · rw [if_neg e] at h
    exact pm_two (k := fS S x1 x2 x3) (e := 6) hR (fS_le S x1 x2 x3) (by decide) (by decide) (by rw [if_neg e]; exact h)
  · subst ei ej
    rw [if_pos e, if_neg q, sa_nI (by omega), sa_nI (by omega)] at h
    rw [nI_eq (by omega) (by omega)] at q
    rw [pk_sub hij, show (1 : Int32) = nI 1 from rfl, pk_sub (by omega), show (2 : Int32) = nI 2 from rfl, pk_div (by omega) (by omega) (by omega)]
    refine pm_find hR h0 hij hjl ?_
    rw [if_neg (nI_pos (by omega)), if_neg (nI_ge (by omega) (by omega)), tn_nI (by omega)]
    exact h
  · rw [if_pos e, if_pos q] at h
    exact pm_two (k := 0) (e := 6) hR (by decide) (by decide) (by decide) h
end PMG
