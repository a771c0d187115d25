section CSPAN
variable {post : Int32 → CS → Prop} {C : CS} {S : Sh} {X : Nat → Nat} {Wt : Nat → Int32} {L b : Nat} {lim low high : Int32}
theorem lp_below (hX : ∀ m, m < L → cr C 5 m = nI (X m)) (hL : L ≤ 400) (hb : b ≤ L) : ∀ k a n, a + k = b → post (nI (fold (fun i n => if decide (nI (X i) < lim) = true then n + 1 else n) a k n)) C → w_X0_countBelow_6 post (k + 1) C (nI b) lim (nI n) (nI a) := by
  intro k
  induction k with
  | zero => intro a n ha h; exact ⟨fun _ => h, fun q => absurd (nI_le (by omega) (by omega)) q⟩
  | succ k ih =>
    intro a n ha h
    rw [fold] at h
    refine ⟨fun q => absurd q (nI_ge (by omega) (by omega)), fun _ => ⟨vin_nI (by omega) (by omega), fun q => ?_, fun q => ?_⟩⟩
    · rw [tn_nI (by omega), hX a (by omega)] at q
      rw [if_neg (by simp; exact q)] at h
      show w_X0_countBelow_6 post (k + 1) C _ _ _ (nI a + 1)
      rw [nI_1]; exact ih (a + 1) n (by omega) h
    · rw [tn_nI (by omega), hX a (by omega)] at q
      rw [if_pos (by simp; exact Int32.not_le.mp q)] at h
      show w_X0_countBelow_6 post (k + 1) C _ _ (nI n + 1) (nI a + 1)
      rw [nI_1, nI_1]; exact ih (a + 1) (n + 1) (by omega) h
theorem lp_within (hX : ∀ m, m < L → cr C 5 m = nI (X m)) (hL : L ≤ 400) (hb : b ≤ L) : ∀ k a n, a + k = b → post (nI (fold (fun i n => if (decide (low ≤ nI (X i)) && decide (nI (X i) ≤ high)) = true then n + 1 else n) a k n)) C → w_X0_countWithin_6 post (k + 1) C (nI b) low high (nI n) (nI a) := by
  intro k
  induction k with
  | zero => intro a n ha h; exact ⟨fun _ => h, fun q => absurd (nI_le (by omega) (by omega)) q⟩
  | succ k ih =>
    intro a n ha h
    rw [fold] at h
    refine ⟨fun q => absurd q (nI_ge (by omega) (by omega)), fun _ => ⟨vin_nI (by omega) (by omega), fun q => ?_, fun q => ⟨fun q2 => ?_, fun q2 => ?_⟩⟩⟩
    · rw [tn_nI (by omega), hX a (by omega)] at q
      rw [if_neg (by simp; intro z; exact absurd q (Int32.not_lt.mpr z))] at h
      show w_X0_countWithin_6 post (k + 1) C _ _ _ _ (nI a + 1)
      rw [nI_1]; exact ih (a + 1) n (by omega) h
    · rw [tn_nI (by omega), hX a (by omega)] at q q2
      rw [if_neg (by simp; intro z; exact q2)] at h
      show w_X0_countWithin_6 post (k + 1) C _ _ _ _ (nI a + 1)
      rw [nI_1]; exact ih (a + 1) n (by omega) h
    · rw [tn_nI (by omega), hX a (by omega)] at q q2
      rw [if_pos (by simp; exact ⟨Int32.not_lt.mp q, Int32.not_lt.mp q2⟩)] at h
      show w_X0_countWithin_6 post (k + 1) C _ _ _ (nI n + 1) (nI a + 1)
      rw [nI_1, nI_1]; exact ih (a + 1) (n + 1) (by omega) h
theorem lp_weigh {post : Int64 → CS → Prop} (hX : ∀ m, m < L → cr C 5 m = nI (X m) ∧ cr C 6 m = Wt m) (hL : L ≤ 400) (hb : b ≤ L) : ∀ k a (n : Int64), a + k = b → post (fold (fun i n => if nI (X i) < lim then n + (Wt i).toInt64 else n) a k n) C → w_X0_weighBelow_6 post (k + 1) C (nI b) lim n (nI a) := by
  intro k
  induction k with
  | zero => intro a n ha h; exact ⟨fun _ => h, fun q => absurd (nI_le (by omega) (by omega)) q⟩
  | succ k ih =>
    intro a n ha h
    rw [fold] at h
    refine ⟨fun q => absurd q (nI_ge (by omega) (by omega)), fun _ => ⟨vin_nI (by omega) (by omega), fun q => ?_, fun q => ?_⟩⟩
    · rw [tn_nI (by omega), (hX a (by omega)).1] at q
      rw [if_neg (Int32.not_lt.mpr q)] at h
      show w_X0_weighBelow_6 post (k + 1) C _ _ _ (nI a + 1)
      rw [nI_1]; exact ih (a + 1) n (by omega) h
    · rw [tn_nI (by omega), (hX a (by omega)).1] at q
      rw [if_pos (Int32.not_le.mp q)] at h
      show w_X0_weighBelow_6 post (k + 1) C _ _ (n + Int32.toInt64 (cr C 6 (nI a).toNatClampNeg)) (nI a + 1)
      rw [nI_1, tn_nI (by omega), (hX a (by omega)).2]; exact ih (a + 1) _ (by omega) h
def eN (n : Nat) : Int32 := if n = 1024 then -6 else nI n
theorem eN_6 {n : Nat} (h : n ≤ 1024) : eN n = -6 ↔ n = 1024 := by
  unfold eN
  by_cases e : n = 1024
  · rw [if_pos e]; simp [e]
  · rw [if_neg e]
    refine ⟨fun q => ?_, fun q => absurd q e⟩
    rw [fa_eq, nI_toInt (by omega)] at q
    have : (-6 : Int32).toInt = -6 := rfl
    omega
theorem lp_least (hX : ∀ m, m < L → cr C 5 m = nI (X m) ∧ X m < 1024) (hL : L ≤ 400) (hb : b ≤ L) : ∀ k a n, a + k = b → n ≤ 1024 → post (eN (fold (fun i n => if low ≤ nI (X i) ∧ X i < n then X i else n) a k n)) C → w_X0_leastFrom_7 post (k + 1) C (nI b) low (eN n) (nI a) := by
  intro k
  induction k with
  | zero => intro a n ha hn h; exact ⟨fun _ => h, fun q => absurd (nI_le (by omega) (by omega)) q⟩
  | succ k ih =>
    intro a n ha hn h
    rw [fold] at h
    obtain ⟨g1, g2⟩ := hX a (by omega)
    have keep : post (eN (fold (fun i n => if low ≤ nI (X i) ∧ X i < n then X i else n) (a + 1) k n)) C → w_X0_leastFrom_52 post (w_X0_leastFrom_7 post (k + 1)) C (nI b) low (eN n) (nI a) := fun h => by
      show w_X0_leastFrom_7 post (k + 1) C _ _ _ (nI a + 1)
      rw [nI_1]; exact ih (a + 1) n (by omega) hn h
    have take : post (eN (fold (fun i n => if low ≤ nI (X i) ∧ X i < n then X i else n) (a + 1) k (X a))) C → w_X0_leastFrom_43 post (w_X0_leastFrom_7 post (k + 1)) C (nI b) low (nI a) := fun h => by
      refine ⟨vin_nI (by omega) (by omega), ?_⟩
      show w_X0_leastFrom_7 post (k + 1) C _ _ (cr C 5 (nI a).toNatClampNeg) (nI a + 1)
      rw [nI_1, tn_nI (by omega), g1, show nI (X a) = eN (X a) by unfold eN; rw [if_neg (by omega)]]; exact ih (a + 1) (X a) (by omega) (by omega) h
    refine ⟨fun q => absurd q (nI_ge (by omega) (by omega)), fun _ => ⟨vin_nI (by omega) (by omega), fun q => ?_, fun q => ⟨fun q2 => ?_, fun q2 => ⟨fun q3 => ?_, fun q3 => ?_⟩⟩⟩⟩
    · rw [tn_nI (by omega), g1] at q
      rw [if_neg (fun z => absurd q (Int32.not_lt.mpr z.1))] at h
      exact keep h
    · rw [tn_nI (by omega), g1] at q
      have e := (eN_6 hn).mp q2
      rw [if_pos ⟨Int32.not_lt.mp q, by omega⟩] at h
      exact take h
    · rw [tn_nI (by omega), g1] at q q3
      have e : n ≠ 1024 := fun z => q2 ((eN_6 hn).mpr z)
      rw [eN, if_neg e, nI_leI (by omega) (by omega)] at q3
      rw [if_neg (fun z => by omega)] at h
      exact keep h
    · rw [tn_nI (by omega), g1] at q q3
      have e : n ≠ 1024 := fun z => q2 ((eN_6 hn).mpr z)
      rw [eN, if_neg e, nI_leI (by omega) (by omega)] at q3
      rw [if_pos ⟨Int32.not_lt.mp q, by omega⟩] at h
      exact take h
theorem lp_great (hX : ∀ m, m < L → cr C 5 m = nI (X m) ∧ X m < 1024) (hL : L ≤ 400) (hb : b ≤ L) : ∀ k a n, a + k = b → n ≤ 1024 → post (eN (fold (fun i n => if nI (X i) ≤ high ∧ (n = 1024 ∨ n < X i) then X i else n) a k n)) C → w_X0_greatestTo_7 post (k + 1) C (nI b) high (eN n) (nI a) := by
  intro k
  induction k with
  | zero => intro a n ha hn h; exact ⟨fun _ => h, fun q => absurd (nI_le (by omega) (by omega)) q⟩
  | succ k ih =>
    intro a n ha hn h
    rw [fold] at h
    obtain ⟨g1, g2⟩ := hX a (by omega)
    have keep : post (eN (fold (fun i n => if nI (X i) ≤ high ∧ (n = 1024 ∨ n < X i) then X i else n) (a + 1) k n)) C → w_X0_greatestTo_52 post (w_X0_greatestTo_7 post (k + 1)) C (nI b) high (eN n) (nI a) := fun h => by
      show w_X0_greatestTo_7 post (k + 1) C _ _ _ (nI a + 1)
      rw [nI_1]; exact ih (a + 1) n (by omega) hn h
    have take : post (eN (fold (fun i n => if nI (X i) ≤ high ∧ (n = 1024 ∨ n < X i) then X i else n) (a + 1) k (X a))) C → w_X0_greatestTo_43 post (w_X0_greatestTo_7 post (k + 1)) C (nI b) high (nI a) := fun h => by
      refine ⟨vin_nI (by omega) (by omega), ?_⟩
      show w_X0_greatestTo_7 post (k + 1) C _ _ (cr C 5 (nI a).toNatClampNeg) (nI a + 1)
      rw [nI_1, tn_nI (by omega), g1, show nI (X a) = eN (X a) by unfold eN; rw [if_neg (by omega)]]; exact ih (a + 1) (X a) (by omega) (by omega) h
    refine ⟨fun q => absurd q (nI_ge (by omega) (by omega)), fun _ => ⟨vin_nI (by omega) (by omega), fun q => ?_, fun q => ⟨fun q2 => ?_, fun q2 => ⟨fun q3 => ?_, fun q3 => ?_⟩⟩⟩⟩
    · rw [tn_nI (by omega), g1] at q
      rw [if_neg (fun z => absurd q (Int32.not_lt.mpr z.1))] at h
      exact keep h
    · rw [tn_nI (by omega), g1] at q
      have e := (eN_6 hn).mp q2
      rw [if_pos ⟨Int32.not_lt.mp q, Or.inl e⟩] at h
      exact take h
    · rw [tn_nI (by omega), g1] at q q3
      have e : n ≠ 1024 := fun z => q2 ((eN_6 hn).mpr z)
      rw [eN, if_neg e, nI_leI (by omega) (by omega)] at q3
      rw [if_neg (fun z => by omega)] at h
      exact keep h
    · rw [tn_nI (by omega), g1] at q q3
      have e : n ≠ 1024 := fun z => q2 ((eN_6 hn).mpr z)
      rw [eN, if_neg e, nI_leI (by omega) (by omega)] at q3
      rw [if_pos ⟨Int32.not_lt.mp q, by omega⟩] at h
      exact take h
theorem leF_le {X : Nat → Nat} {low : Int32} : ∀ k a n, (n ≤ 1024 ∧ ∀ i, a ≤ i → i < a + k → X i < 1024) → fold (fun i n => if low ≤ nI (X i) ∧ X i < n then X i else n) a k n ≤ 1024 := by
  intro k
  induction k with
  | zero => intro a n h; exact h.1
  | succ k ih =>
    intro a n h
    rw [fold]
    refine ih _ _ ⟨?_, fun i h1 h2 => h.2 i (by omega) (by omega)⟩
    have := h.2 a (by omega) (by omega)
    split <;> omega
theorem geF_le {X : Nat → Nat} {low : Int32} : ∀ k a n, (n ≤ 1024 ∧ ∀ i, a ≤ i → i < a + k → X i < 1024) → fold (fun i n => if nI (X i) ≤ low ∧ (n = 1024 ∨ n < X i) then X i else n) a k n ≤ 1024 := by
  intro k
  induction k with
  | zero => intro a n h; exact h.1
  | succ k ih =>
    intro a n h
    rw [fold]
    refine ih _ _ ⟨?_, fun i h1 h2 => h.2 i (by omega) (by omega)⟩
    have := h.2 a (by omega) (by omega)
    split <;> omega
/-- foundOrNone behind a number that 1024 stands for none in -/
theorem pc_enc (hR : RelC C S) {n : Nat} (hn : n ≤ 1024) (h : ∀ C', RelC C' (enc S n).2 → post (enc S n).1 C') : w_X3_foundOrNone post C (eN n) := by
  unfold enc at h
  refine pc_none hR (fun q => ?_) (fun q => ?_)
  · have e : n ≠ 1024 := fun z => q ((eN_6 hn).mpr z)
    rw [if_neg e] at h
    have h2 := h C hR
    rw [eN, if_neg e]; exact h2
  · rw [if_pos ((eN_6 hn).mp q)] at h
    exact h
variable {x1 x2 x3 x4 x5 : Int32}
/-- a span that is asked for: its row lies on the sheet -/
theorem pc_laySpan (hR : RelC C S) (hf : fS S x1 x2 x3 ≠ 0 → post (ng (fS S x1 x2 x3)) C) (h : ∀ C' i j, fS S x1 x2 x3 = 0 → x2 = nI i → x3 = nI j → i ≤ j → j ≤ sL S (vr S x1) → sL S (vr S x1) ≤ 400 → vr S x1 < sV S → SameX [3] [5, 6] C C' → cz C' 3 = nI (sL S (vr S x1)) → (∀ m, m < sL S (vr S x1) → cr C' 5 m = nI (sX S (vr S x1) m) ∧ cr C' 6 m = sW S (vr S x1) m) → RelC C' S → post 0 C') : w_X3_layOutSpan post C x1 x2 x3 := by
  refine pc_findS hR ⟨fun e => hf (fun q => e (by rw [q]; rfl)), fun e => ?_⟩
  have e2 := (ng_ne _ (fS_le S x1 x2 x3)).mp e
  obtain ⟨f0, f1, f2, f3⟩ := fS_0 e2
  obtain ⟨hi, a1, a2, a3, a4, a5, a6, a7, a8⟩ := hR.at f0
  obtain ⟨i, j, ei, ej, hij, hjl⟩ := span_nat a6 f1 f2 f3
  refine ⟨hi, fun w hw => ⟨_, hw.trans a1, a4, pc_lay4 hR a3 (fun C' hs hz hF hR' => ?_)⟩⟩
  rw [e2]
  exact h C' i j e2 ei ej hij hjl a6 a3 hs hz hF hR'
theorem sa_nI {i : Nat} (h : i ≤ 400) : sa (nI i) = i := tn_nI (by omega)
theorem pc_rank (hR : RelC C S) (h : ∀ C', RelC C' (sp_rank S x1 x2 x3 x4).2 → post (sp_rank S x1 x2 x3 x4).1 C') : w_X3_rank post C x1 x2 x3 x4 := by
  unfold sp_rank sp_span at h
  refine pc_laySpan hR (fun e => ⟨fun q => absurd ((ng_ne _ (fS_le S x1 x2 x3)).mp q) e, fun _ => ?_⟩) (fun C' i j e ei ej hij hjl hL hv hs hz hF hR' => ⟨fun _ => ?_, fun q => absurd rfl q⟩)
  · rw [if_neg e] at h; exact pc_told hR (fS_le S x1 x2 x3) e h
  · subst ei ej
    rw [if_pos e, sa_nI (by omega), sa_nI (by omega)] at h
    exact ⟨j - i + 1, lp_below (X := sX S (vr S x1)) (fun m hm => (hF m hm).1) hL hjl (j - i) i 0 (by omega) (h C' hR')⟩
theorem pc_between (hR : RelC C S) (h : ∀ C', RelC C' (sp_between S x1 x2 x3 x4 x5).2 → post (sp_between S x1 x2 x3 x4 x5).1 C') : w_X3_between post C x1 x2 x3 x4 x5 := by
  unfold sp_between sp_span at h
  refine pc_laySpan hR (fun e => ⟨fun q => absurd ((ng_ne _ (fS_le S x1 x2 x3)).mp q) e, fun _ => ?_⟩) (fun C' i j e ei ej hij hjl hL hv hs hz hF hR' => ⟨fun _ => ?_, fun q => absurd rfl q⟩)
  · rw [if_neg e] at h; exact pc_told hR (fS_le S x1 x2 x3) e h
  · subst ei ej
    rw [if_pos e, sa_nI (by omega), sa_nI (by omega)] at h
    exact ⟨j - i + 1, lp_within (X := sX S (vr S x1)) (fun m hm => (hF m hm).1) hL hjl (j - i) i 0 (by omega) (h C' hR')⟩
theorem pc_next (hR : RelC C S) (h : ∀ C', RelC C' (sp_next S x1 x2 x3 x4).2 → post (sp_next S x1 x2 x3 x4).1 C') : w_X3_next post C x1 x2 x3 x4 := by
  unfold sp_next sp_span at h
  refine pc_laySpan hR (fun e => ⟨fun q => absurd ((ng_ne _ (fS_le S x1 x2 x3)).mp q) e, fun _ => ?_⟩) (fun C' i j e ei ej hij hjl hL hv hs hz hF hR' => ⟨fun _ => ?_, fun q => absurd rfl q⟩)
  · rw [if_neg e] at h; exact pc_told hR (fS_le S x1 x2 x3) e h
  · subst ei ej
    rw [if_pos e, sa_nI (by omega), sa_nI (by omega)] at h
    have hx : ∀ m, m < sL S (vr S x1) → sX S (vr S x1) m < 1024 := fun m hm => hR.inv.2.2.2.2.2.2.1 _ m hv hm
    exact ⟨j - i + 1, lp_least (X := sX S (vr S x1)) (fun m hm => ⟨(hF m hm).1, hx m hm⟩) hL hjl (j - i) i 1024 (by omega) (by omega) (pc_enc hR' (leF_le _ _ _ ⟨by omega, fun m h1 h2 => hx m (by omega)⟩) h)⟩
theorem pc_prior (hR : RelC C S) (h : ∀ C', RelC C' (sp_prior S x1 x2 x3 x4).2 → post (sp_prior S x1 x2 x3 x4).1 C') : w_X3_prior post C x1 x2 x3 x4 := by
  unfold sp_prior sp_span at h
  refine pc_laySpan hR (fun e => ⟨fun q => absurd ((ng_ne _ (fS_le S x1 x2 x3)).mp q) e, fun _ => ?_⟩) (fun C' i j e ei ej hij hjl hL hv hs hz hF hR' => ⟨fun _ => ?_, fun q => absurd rfl q⟩)
  · rw [if_neg e] at h; exact pc_told hR (fS_le S x1 x2 x3) e h
  · subst ei ej
    rw [if_pos e, sa_nI (by omega), sa_nI (by omega)] at h
    have hx : ∀ m, m < sL S (vr S x1) → sX S (vr S x1) m < 1024 := fun m hm => hR.inv.2.2.2.2.2.2.1 _ m hv hm
    exact ⟨j - i + 1, lp_great (X := sX S (vr S x1)) (fun m hm => ⟨(hF m hm).1, hx m hm⟩) hL hjl (j - i) i 1024 (by omega) (by omega) (pc_enc hR' (geF_le _ _ _ ⟨by omega, fun m h1 h2 => hx m (by omega)⟩) h)⟩
theorem pc_sum {post : Int64 → CS → Prop} (hR : RelC C S) (h : ∀ C', RelC C' (sp_sum S x1 x2 x3 x4).2 → post (sp_sum S x1 x2 x3 x4).1 C') : w_X3_sum post C x1 x2 x3 x4 := by
  unfold sp_sum at h
  refine pc_laySpan hR (fun e => ⟨fun q => absurd ((ng_ne _ (fS_le S x1 x2 x3)).mp q) e, fun _ => ?_⟩) (fun C' i j e ei ej hij hjl hL hv hs hz hF hR' => ⟨fun _ => ?_, fun q => absurd rfl q⟩)
  · rw [if_neg e] at h; exact pc_told hR (fS_le S x1 x2 x3) e h
  · subst ei ej
    rw [if_pos e, sa_nI (by omega), sa_nI (by omega)] at h
    exact ⟨j - i + 1, lp_weigh (X := sX S (vr S x1)) (Wt := sW S (vr S x1)) hF hL hjl (j - i) i 0 (by omega) (h C' hR')⟩
/-- seal: small, and what leastFrom finds -/
theorem small_iff {X : Nat → Nat} : ∀ k a r, fold (fun i r => r && decide (X i < 256)) a k r = true ↔ (r = true ∧ ∀ i, a ≤ i → i < a + k → X i < 256) := by
  intro k
  induction k with
  | zero => intro a r; exact ⟨fun h => ⟨h, fun i h1 h2 => by omega⟩, fun h => h.1⟩
  | succ k ih =>
    intro a r
    rw [fold, ih]
    simp only [Bool.and_eq_true, decide_eq_true_eq]
    refine ⟨fun h => ⟨h.1.1, fun i h1 h2 => ?_⟩, fun h => ⟨⟨h.1, h.2 a (by omega) (by omega)⟩, fun i h1 h2 => h.2 i (by omega) (by omega)⟩⟩
    by_cases e : i = a
    · subst e; exact h.1.2
    · exact h.2 i (by omega) (by omega)
theorem leF_none {X : Nat → Nat} {low : Int32} : ∀ k a n, n ≤ 1024 → (∀ i, a ≤ i → i < a + k → X i < 1024) → (fold (fun i n => if low ≤ nI (X i) ∧ X i < n then X i else n) a k n = 1024 ↔ (n = 1024 ∧ ∀ i, a ≤ i → i < a + k → ¬ low ≤ nI (X i))) := by
  intro k
  induction k with
  | zero => intro a n hn hx; exact ⟨fun h => ⟨h, fun i h1 h2 => by omega⟩, fun h => h.1⟩
  | succ k ih =>
    intro a n hn hx
    have hxa := hx a (by omega) (by omega)
    rw [fold, ih _ _ (by split <;> omega) (fun i h1 h2 => hx i (by omega) (by omega))]
    by_cases c : low ≤ nI (X a) ∧ X a < n
    · rw [if_pos c]
      exact ⟨fun h => by omega, fun h => absurd c.1 (h.2 a (by omega) (by omega))⟩
    · rw [if_neg c]
      refine ⟨fun h => ⟨h.1, fun i h1 h2 => ?_⟩, fun h => ⟨h.1, fun i h1 h2 => h.2 i (by omega) (by omega)⟩⟩
      by_cases e : i = a
      · subst e; exact fun q => c ⟨q, by omega⟩
      · exact h.2 i (by omega) (by omega)
theorem pc_seal80 (hR : RelC C S) {v : Nat} (hv : v < sV S) (hx : vp_in x2 12) (h3 : ¬ x3 = 0 → ∀ i, i < sL S v → sX S v i < 256) (h : ∀ C', RelC C' (putS S x2.toNatClampNeg (if x3 = 0 then 2 else 3) v) → post (nI (sL S v)) C') : w_X3_seal_80 post C x2 x3 (some v) := by
  refine ⟨v, rfl, by rw [hR.n]; exact hv, hx, fun q => ?_, fun q => ?_⟩
  · rw [if_pos q] at h
    rw [(hR.ver hv).2.2.1]
    exact h _ (hR.put (k := 2) (by omega) (by omega) hv (fun z => by cases z))
  · rw [if_neg q] at h
    rw [(hR.ver hv).2.2.1]
    exact h _ (hR.put (k := 3) (by omega) (by omega) hv (fun _ => h3 q))
theorem pc_seal (hR : RelC C S) (h : ∀ C', RelC C' (sp_seal S x1 x2 x3).2 → post (sp_seal S x1 x2 x3).1 C') : w_X3_seal post C x1 x2 x3 := by
  unfold sp_seal at h
  refine pc_findP hR ⟨fun e => ?_, fun e => ?_⟩
  · have e := (ng_ne _ (fL_le S x1)).mp e
    rw [if_pos e] at h
    obtain ⟨hi, a1, a2, a3, a4, a5, a6, a7, a8⟩ := hR.at e
    refine pc_place (fun hj g0 g1 => ⟨fun _ => ⟨hi, fun w hw => ?_⟩, fun q => absurd q (by decide)⟩) (fun hb => ⟨fun q => absurd rfl q, fun _ => ?_⟩)
    · rw [if_neg (noP_f g0 g1)] at h
      have ew := hw.trans a1
      refine ⟨fun q => ?_, fun q => ⟨_, ew, a4, pc_lay4 hR a3 (fun C' hs hz hF hR' => ⟨by rw [hR'.n]; exact a3, ?_⟩)⟩⟩
      · rw [if_pos q] at h
        rw [ew]
        exact pc_seal80 hR a3 hj (fun z => absurd q z) (by rw [if_pos q]; exact h)
      · rw [if_neg q] at h
        have hx : ∀ m, m < sL S (vr S x1) → sX S (vr S x1) m < 1024 := fun m hm => hR.inv.2.2.2.2.2.2.1 _ m a3 hm
        rw [(hR'.ver a3).2.2.1]
        refine ⟨sL S (vr S x1) + 1, ?_⟩
        have hsm := small_iff (X := sX S (vr S x1)) (sL S (vr S x1)) 0 true
        have hln := leF_none (X := sX S (vr S x1)) (low := 256) (sL S (vr S x1)) 0 1024 (by omega) (fun i _ h2 => hx i (by omega))
        have hle := leF_le (X := sX S (vr S x1)) (low := 256) (sL S (vr S x1)) 0 1024 ⟨by omega, fun i _ h2 => hx i (by omega)⟩
        have h256 : ∀ n, n < 1024 → ((256 : Int32) ≤ nI n ↔ 256 ≤ n) := fun n hn => nI_leI (a := 256) (by omega) (by omega)
        refine lp_least (X := sX S (vr S x1)) (fun m hm => ⟨(hF m hm).1, hx m hm⟩) a6 (Nat.le_refl _) (sL S (vr S x1)) 0 1024 (by omega) (by omega) ⟨fun z => ?_, fun z => ?_⟩
        · have z := hln.mp ((eN_6 hle).mp z)
          have hs2 : small S (vr S x1) = true := hsm.mpr ⟨rfl, fun i h1 h2 => by
            have := z.2 i h1 h2
            rw [h256 _ (hx i (by omega))] at this
            omega⟩
          rw [if_pos hs2] at h
          exact pc_seal80 hR' a3 hj (fun _ i hi2 => (hsm.mp hs2).2 i (by omega) (by omega)) (by rw [if_neg q]; exact h)
        · have hs2 : ¬ small S (vr S x1) = true := fun z2 => z ((eN_6 hle).mpr (hln.mpr ⟨rfl, fun i h1 h2 => by
            have := (hsm.mp z2).2 i h1 h2
            rw [h256 _ (hx i (by omega))]
            omega⟩))
          rw [if_neg hs2] at h
          exact pc_told (k := 1) hR' (by decide) (by decide) h
    · rw [if_pos (noP_t hb)] at h
      exact pc_told (k := 1) hR (by decide) (by decide) h
  · have e2 : ¬ fL S x1 = 0 := fun q => e (by rw [q]; rfl)
    rw [if_neg e2] at h
    exact pc_told hR (fL_le S x1) e2 h
end CSPAN
