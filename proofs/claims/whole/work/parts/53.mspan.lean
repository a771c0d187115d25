def pN (n : Nat) : Int32 := if n = 1024 then -1 else nI n
theorem pN_1 {n : Nat} (h : n ≤ 1024) : pN n = -1 ↔ n = 1024 := by
  unfold pN
  by_cases e : n = 1024
  · rw [if_pos e]; simp [e]
  · rw [if_neg e]
    refine ⟨fun q => ?_, fun q => absurd q e⟩
    rw [fa_eq, nI_toInt (by omega)] at q
    have : (-1 : Int32).toInt = -1 := rfl
    omega
theorem pN_lt {n m : Nat} (h : n ≤ 1024) (hm : m < 1024) : pN n < nI m ↔ (n = 1024 ∨ n < m) := by
  unfold pN
  by_cases e : n = 1024
  · rw [if_pos e, fa_lt, nI_toInt (by omega), show (-1 : Int32).toInt = -1 from rfl]
    exact ⟨fun _ => Or.inl e, fun _ => by omega⟩
  · rw [if_neg e, nI_ltI (by omega) (by omega)]; omega
section PMD
variable {post : Int32 → MS → Prop} {M M0 : MS} {S : Sh} {x1 x2 x3 x4 x5 : Int32}
theorem pm_atSpan (hR : RelM M S) (hf : fS S x1 x2 x3 ≠ 0 → post (ng (fS S x1 x2 x3)) M) (h : ∀ i j, fS S x1 x2 x3 = 0 → x2 = nI i → x3 = nI j → i ≤ j → j ≤ sL S (vr S x1) → sL S (vr S x1) ≤ 400 → vr S x1 < sV S → fL S x1 = 0 → post 0 M) : w_X4_lookSpan post M x1 x2 x3 := by
  refine pm_lookSpan hR ?_
  by_cases e : fS S x1 x2 x3 = 0
  · obtain ⟨f0, f1, f2, f3⟩ := fS_0 e
    obtain ⟨hi, a1, a2, a3, a4, a5⟩ := hR.at f0
    obtain ⟨i, j, ei, ej, hij, hjl⟩ := span_nat a3 f1 f2 f3
    rw [e]
    exact h i j e ei ej hij hjl a3 a2 f0
  · exact hf e
theorem lm_within {low high : Int64} (hR : RelM M S) (h0 : fL S x1 = 0) {b : Nat} (hb : b ≤ sL S (vr S x1)) (hL : sL S (vr S x1) ≤ 400) : ∀ k a n, a + k = b → post (nI (fold (fun i n => if (decide (low ≤ (nI (sX S (vr S x1) i)).toInt64) && decide ((nI (sX S (vr S x1) i)).toInt64 ≤ high)) = true then n + 1 else n) a k n)) M → w_X4_within_6 post (k + 1) M x1 (nI b) low high (nI n) (nI a) := by
  intro k
  induction k with
  | zero => intro a n ha h; exact ⟨fun _ => h, fun q => absurd (nI_le (by omega) (by omega)) q⟩
  | succ k ih =>
    intro a n ha h
    rw [fold] at h
    have skip : post (nI (fold (fun i n => if (decide (low ≤ (nI (sX S (vr S x1) i)).toInt64) && decide ((nI (sX S (vr S x1) i)).toInt64 ≤ high)) = true then n + 1 else n) (a + 1) k n)) M → w_X4_within_46 post (w_X4_within_6 post (k + 1)) M x1 (nI b) low high (nI a) (nI n) := fun h => by
      show w_X4_within_6 post (k + 1) M x1 (nI b) low high (nI n + nI 0) (nI a + 1)
      rw [nI_1, nI_add]; exact ih (a + 1) n (by omega) h
    refine ⟨fun q => absurd q (nI_ge (by omega) (by omega)), fun _ => pm_val hR h0 (by omega) ⟨fun q => ?_, fun q => pm_val hR h0 (by omega) ⟨fun q2 => ?_, fun q2 => ?_⟩⟩⟩
    · rw [lg_cmp_lt] at q
      rw [if_neg (by simp; intro z; exact absurd q (Int64.not_lt.mpr z))] at h
      exact skip h
    · rw [lg_cmp_gt] at q2
      rw [if_neg (by simp; intro z; exact q2)] at h
      exact skip h
    · rw [lg_cmp_lt] at q
      rw [lg_cmp_gt] at q2
      rw [if_pos (by simp; exact ⟨Int64.not_lt.mp q, Int64.not_lt.mp q2⟩)] at h
      show w_X4_within_6 post (k + 1) M x1 (nI b) low high (nI n + nI 1) (nI a + 1)
      rw [nI_1, nI_add]; exact ih (a + 1) (n + 1) (by omega) h
theorem pm_rank (hR : RelM M S) (h : ∀ M', RelM M' (sp_rank S x1 x2 x3 x4).2 → post (sp_rank S x1 x2 x3 x4).1 M') : w_X4_rank post M x1 x2 x3 x4 := by
  unfold sp_rank sp_span at h
  refine pm_atSpan hR (fun e => ⟨fun q => absurd q (ng_nn (fS_le S x1 x2 x3) e), fun _ => ?_⟩) (fun i j e ei ej hij hjl hL hv h0 => ⟨fun _ => ?_, fun q => absurd (by decide) q⟩)
  · rw [if_neg e] at h; exact pm_ans hR (fS_le S x1 x2 x3) e h
  · subst ei ej
    rw [if_pos e, sa_nI (by omega), sa_nI (by omega)] at h
    refine ⟨j - i + 1, lm_within hR h0 hjl hL (j - i) i 0 (by omega) ?_⟩
    have e1 : fold (fun m n => if (decide ((-9223372036854775808 : Int64) ≤ (nI (sX S (vr S x1) m)).toInt64) && decide ((nI (sX S (vr S x1) m)).toInt64 ≤ x4.toInt64 - 1)) = true then n + 1 else n) i (j - i) 0 = cntF (fun m => decide (nI (sX S (vr S x1) m) < x4)) i (j - i) := by
      refine fold_congr (fun m r h1 h2 => ?_)
      have hx := hR.inv.2.2.2.2.2.2.1 _ m hv (by omega)
      have hr := fb_rng x4
      have ha : (-9223372036854775808 : Int64) ≤ (nI (sX S (vr S x1) m)).toInt64 := by
        rw [fa_le64, Int32.toInt_toInt64, show (-9223372036854775808 : Int64).toInt = -9223372036854775808 from rfl, nI_toInt (by omega)]; omega
      have hb : (nI (sX S (vr S x1) m)).toInt64 ≤ x4.toInt64 - 1 ↔ nI (sX S (vr S x1) m) < x4 := by
        have h64 : (1 : Int64).toInt = 1 := rfl
        rw [fa_le64, fb_subL (by rw [Int32.toInt_toInt64, h64]; omega) (by rw [Int32.toInt_toInt64, h64]; omega), Int32.toInt_toInt64, Int32.toInt_toInt64, h64, fa_lt]; omega
      have : (decide ((-9223372036854775808 : Int64) ≤ (nI (sX S (vr S x1) m)).toInt64) && decide ((nI (sX S (vr S x1) m)).toInt64 ≤ x4.toInt64 - 1)) = decide (nI (sX S (vr S x1) m) < x4) := by
        rw [decide_eq_true ha, Bool.true_and]; exact decide_eq_decide.mpr hb
      rw [this]
    rw [e1]
    exact h M hR
  done
theorem pm_between (hR : RelM M S) (h : ∀ M', RelM M' (sp_between S x1 x2 x3 x4 x5).2 → post (sp_between S x1 x2 x3 x4 x5).1 M') : w_X4_between post M x1 x2 x3 x4 x5 := by
  unfold sp_between sp_span at h
  refine pm_atSpan hR (fun e => ⟨fun q => absurd q (ng_nn (fS_le S x1 x2 x3) e), fun _ => ?_⟩) (fun i j e ei ej hij hjl hL hv h0 => ⟨fun _ => ?_, fun q => absurd (by decide) q⟩)
  · rw [if_neg e] at h; exact pm_ans hR (fS_le S x1 x2 x3) e h
  · subst ei ej
    rw [if_pos e, sa_nI (by omega), sa_nI (by omega)] at h
    refine ⟨j - i + 1, lm_within hR h0 hjl hL (j - i) i 0 (by omega) ?_⟩
    have e1 : fold (fun m n => if (decide (x4.toInt64 ≤ (nI (sX S (vr S x1) m)).toInt64) && decide ((nI (sX S (vr S x1) m)).toInt64 ≤ x5.toInt64)) = true then n + 1 else n) i (j - i) 0 = cntF (fun m => decide (x4 ≤ nI (sX S (vr S x1) m)) && decide (nI (sX S (vr S x1) m) ≤ x5)) i (j - i) := by
      refine fold_congr (fun m r h1 h2 => ?_)
      have : (decide (x4.toInt64 ≤ (nI (sX S (vr S x1) m)).toInt64) && decide ((nI (sX S (vr S x1) m)).toInt64 ≤ x5.toInt64)) = (decide (x4 ≤ nI (sX S (vr S x1) m)) && decide (nI (sX S (vr S x1) m) ≤ x5)) := by
        rw [decide_eq_decide.mpr (fa_wide_le x4 (nI (sX S (vr S x1) m))), decide_eq_decide.mpr (fa_wide_le (nI (sX S (vr S x1) m)) x5)]
      rw [this]
    rw [e1]
    exact h M hR
theorem lm_next {r : Nat} (hR : RelM M S) (h0 : fL S x1 = 0) {b : Nat} (hb : b ≤ sL S (vr S x1)) (hL : sL S (vr S x1) ≤ 400) (h : ∀ M', RelM M' (enc S r).2 → post (enc S r).1 M') : ∀ k a n, a + k = b → n ≤ 1024 → r = fold (fun i n => if x4 ≤ nI (sX S (vr S x1) i) ∧ sX S (vr S x1) i < n then sX S (vr S x1) i else n) a k n → w_X4_next_29 post (k + 1) M x1 (nI b) x4 (nI n) (nI a) := by
  obtain ⟨hi1, a1, a2, a3, a4, a5⟩ := hR.at h0
  intro k
  induction k with
  | zero =>
    intro a n ha hn hr
    have hr : r = n := hr
    subst hr
    have e6 : nI r = (1024 : Int32) ↔ r = 1024 := nI_eq (b := 1024) (by omega) (by omega)
    unfold enc at h
    refine ⟨fun _ => ⟨fun q => ?_, fun q => ?_⟩, fun q => absurd (nI_le (by omega) (by omega)) q⟩
    · rw [e6] at q
      rw [if_neg q] at h; exact h M hR
    · rw [e6] at q
      rw [if_pos q] at h; exact pm_ans (k := 6) hR (by decide) (by decide) h
  | succ k ih =>
    intro a n ha hn hr
    rw [fold] at hr
    have hx := hR.inv.2.2.2.2.2.2.1 _ a a2 (by omega)
    refine ⟨fun q => absurd q (nI_ge (by omega) (by omega)), fun _ => pm_val hR h0 (by omega) ⟨fun q => ?_, fun q => pm_val hR h0 (by omega) ?_⟩⟩
    · rw [if_neg (fun z => absurd q (Int32.not_lt.mpr z.1))] at hr
      show w_X4_next_29 post (k + 1) M x1 (nI b) x4 (nI n) (nI a + 1)
      rw [nI_1]; exact ih (a + 1) n (by omega) hn hr
    · show w_X4_next_29 post (k + 1) M x1 (nI b) x4 (if nI (sX S (vr S x1) a) < nI n then nI (sX S (vr S x1) a) else nI n) (nI a + 1)
      rw [nI_1]
      by_cases c : sX S (vr S x1) a < n
      · rw [if_pos (nI_lt (by omega) (by omega))]
        rw [if_pos ⟨Int32.not_lt.mp q, c⟩] at hr
        exact ih (a + 1) _ (by omega) (by omega) hr
      · rw [if_neg (nI_nlt (by omega) (by omega))]
        rw [if_neg (fun z => c z.2)] at hr
        exact ih (a + 1) n (by omega) hn hr
theorem pm_next (hR : RelM M S) (h : ∀ M', RelM M' (sp_next S x1 x2 x3 x4).2 → post (sp_next S x1 x2 x3 x4).1 M') : w_X4_next post M x1 x2 x3 x4 := by
  unfold sp_next sp_span at h
  refine pm_atSpan hR (fun e => ⟨fun q => absurd q (ng_nn (fS_le S x1 x2 x3) e), fun _ => ?_⟩) (fun i j e ei ej hij hjl hL hv h0 => ⟨fun _ => ?_, fun q => absurd (by decide) q⟩)
  · rw [if_neg e] at h; exact pm_ans hR (fS_le S x1 x2 x3) e h
  · subst ei ej
    rw [if_pos e, sa_nI (by omega), sa_nI (by omega)] at h
    exact ⟨j - i + 1, lm_next (r := leF (sX S (vr S x1)) x4 i (j - i)) hR h0 hjl hL h (j - i) i 1024 (by omega) (by omega) rfl⟩
theorem lm_prior {r : Nat} (hR : RelM M S) (h0 : fL S x1 = 0) {b : Nat} (hb : b ≤ sL S (vr S x1)) (hL : sL S (vr S x1) ≤ 400) (h : ∀ M', RelM M' (enc S r).2 → post (enc S r).1 M') : ∀ k a n, a + k = b → n ≤ 1024 → r = fold (fun i n => if nI (sX S (vr S x1) i) ≤ x4 ∧ (n = 1024 ∨ n < sX S (vr S x1) i) then sX S (vr S x1) i else n) a k n → w_X4_prior_27 post (k + 1) M x1 (nI b) x4 (pN n) (nI a) := by
  obtain ⟨hi1, a1, a2, a3, a4, a5⟩ := hR.at h0
  intro k
  induction k with
  | zero =>
    intro a n ha hn hr
    have hr : r = n := hr
    subst hr
    unfold enc at h
    refine ⟨fun _ => ⟨fun q => ?_, fun q => ?_⟩, fun q => absurd (nI_le (by omega) (by omega)) q⟩
    · have q2 : ¬ r = 1024 := fun z => q ((pN_1 hn).mpr z)
      rw [if_neg q2] at h
      rw [pN, if_neg q2]; exact h M hR
    · rw [if_pos ((pN_1 hn).mp q)] at h; exact pm_ans (k := 6) hR (by decide) (by decide) h
  | succ k ih =>
    intro a n ha hn hr
    rw [fold] at hr
    have hx := hR.inv.2.2.2.2.2.2.1 _ a a2 (by omega)
    refine ⟨fun q => absurd q (nI_ge (by omega) (by omega)), fun _ => pm_val hR h0 (by omega) ⟨fun q => ?_, fun q => pm_val hR h0 (by omega) ?_⟩⟩
    · rw [if_neg (fun z => absurd q (Int32.not_lt.mpr z.1))] at hr
      show w_X4_prior_27 post (k + 1) M x1 (nI b) x4 (pN n) (nI a + 1)
      rw [nI_1]; exact ih (a + 1) n (by omega) hn hr
    · show w_X4_prior_27 post (k + 1) M x1 (nI b) x4 (if pN n < nI (sX S (vr S x1) a) then nI (sX S (vr S x1) a) else pN n) (nI a + 1)
      rw [nI_1]
      by_cases c : n = 1024 ∨ n < sX S (vr S x1) a
      · rw [if_pos ((pN_lt hn hx).mpr c)]
        rw [if_pos ⟨Int32.not_lt.mp q, c⟩] at hr
        rw [show nI (sX S (vr S x1) a) = pN (sX S (vr S x1) a) by unfold pN; rw [if_neg (by omega)]]
        exact ih (a + 1) _ (by omega) (by omega) hr
      · rw [if_neg (fun z => c ((pN_lt hn hx).mp z))]
        rw [if_neg (fun z => c z.2)] at hr
        exact ih (a + 1) n (by omega) hn hr
theorem pm_prior (hR : RelM M S) (h : ∀ M', RelM M' (sp_prior S x1 x2 x3 x4).2 → post (sp_prior S x1 x2 x3 x4).1 M') : w_X4_prior post M x1 x2 x3 x4 := by
  unfold sp_prior sp_span at h
  refine pm_atSpan hR (fun e => ⟨fun q => absurd q (ng_nn (fS_le S x1 x2 x3) e), fun _ => ?_⟩) (fun i j e ei ej hij hjl hL hv h0 => ⟨fun _ => ?_, fun q => absurd (by decide) q⟩)
  · rw [if_neg e] at h; exact pm_ans hR (fS_le S x1 x2 x3) e h
  · subst ei ej
    rw [if_pos e, sa_nI (by omega), sa_nI (by omega)] at h
    exact ⟨j - i + 1, lm_prior (r := geF (sX S (vr S x1)) x4 i (j - i)) hR h0 hjl hL h (j - i) i 1024 (by omega) (by omega) rfl⟩
theorem lm_sum {post : Int64 → MS → Prop} (hR : RelM M S) (h0 : fL S x1 = 0) {b : Nat} (hb : b ≤ sL S (vr S x1)) (hL : sL S (vr S x1) ≤ 400) : ∀ k a (n : Int64), a + k = b → post (fold (fun i n => if nI (sX S (vr S x1) i) < x4 then n + (sW S (vr S x1) i).toInt64 else n) a k n) M → w_X4_sum_29 post (k + 1) M x1 (nI b) x4 n (nI a) := by
  intro k
  induction k with
  | zero => intro a n ha h; exact ⟨fun _ => h, fun q => absurd (nI_le (by omega) (by omega)) q⟩
  | succ k ih =>
    intro a n ha h
    rw [fold] at h
    refine ⟨fun q => absurd q (nI_ge (by omega) (by omega)), fun _ => pm_val hR h0 (by omega) ⟨fun q => ?_, fun q => pm_wt hR h0 (by omega) ?_⟩⟩
    · rw [if_neg (Int32.not_lt.mpr q)] at h
      show w_X4_sum_29 post (k + 1) M x1 (nI b) x4 (n + 0) (nI a + 1)
      rw [nI_1, Int64.add_zero]; exact ih (a + 1) n (by omega) h
    · rw [if_pos (Int32.not_le.mp q)] at h
      show w_X4_sum_29 post (k + 1) M x1 (nI b) x4 (n + Int32.toInt64 (sW S (vr S x1) a)) (nI a + 1)
      rw [nI_1]; exact ih (a + 1) _ (by omega) h
theorem pm_sum {post : Int64 → MS → Prop} (hR : RelM M S) (h : ∀ M', RelM M' (sp_sum S x1 x2 x3 x4).2 → post (sp_sum S x1 x2 x3 x4).1 M') : w_X4_sum post M x1 x2 x3 x4 := by
  unfold sp_sum at h
  refine pm_atSpan hR (fun e => ⟨fun q => absurd q (ng_nn (fS_le S x1 x2 x3) e), fun _ => ?_⟩) (fun i j e ei ej hij hjl hL hv h0 => ⟨fun _ => ?_, fun q => absurd (by decide) q⟩)
  · rw [if_neg e] at h; exact pm_ans hR (fS_le S x1 x2 x3) e h
  · subst ei ej
    rw [if_pos e, sa_nI (by omega), sa_nI (by omega)] at h
    exact ⟨j - i + 1, lm_sum hR h0 hjl hL (j - i) i 0 (by omega) (h M hR)⟩
end PMD
