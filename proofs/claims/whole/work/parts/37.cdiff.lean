def fD (S : Sh) (x1 x2 x3 x4 x5 : Int32) : Nat := if fL S x1 = 0 then (if fL S x4 = 0 then (if fS S x1 x2 x3 = 0 then (if x5 < 0 then 1 else if (sL S (vr S x4) : Int) < x5.toInt + (x3.toInt - x2.toInt) then 1 else 0) else fS S x1 x2 x3) else fL S x4) else fL S x1
theorem fD_le (S : Sh) (x1 x2 x3 x4 x5 : Int32) : fD S x1 x2 x3 x4 x5 ≤ 6 := by
  unfold fD
  have a1 := fL_le S x1
  have a2 := fL_le S x4
  have a3 := fS_le S x1 x2 x3
  split
  · split
    · split
      · split
        · omega
        · split <;> omega
      · omega
    · omega
  · omega
def sp_differ (S : Sh) (x1 x2 x3 x4 x5 : Int32) : Int32 × Sh := if fD S x1 x2 x3 x4 x5 = 0 then enc S (fstF (fun v => decide (cnt (sX S (vr S x1)) (sa x2) (sa x3 - sa x2) v ≠ cnt (sX S (vr S x4)) (sa x5) (sa x3 - sa x2) v)) 1024) else tl S (fD S x1 x2 x3 x4 x5)
def fQ (S : Sh) (x1 x2 : Int32) : Nat := if fL S x1 = 0 then fL S x2 else fL S x1
theorem fQ_le (S : Sh) (x1 x2 : Int32) : fQ S x1 x2 ≤ 6 := by
  unfold fQ
  have a1 := fL_le S x1
  have a2 := fL_le S x2
  split <;> omega
def apF (S : Sh) (v u : Nat) : Nat := if fstF (fun i => decide (sX S v i ≠ sX S u i ∨ sW S v i ≠ sW S u i)) (min (sL S v) (sL S u)) = min (sL S v) (sL S u) ∧ sL S v = sL S u then 1024 else fstF (fun i => decide (sX S v i ≠ sX S u i ∨ sW S v i ≠ sW S u i)) (min (sL S v) (sL S u))
def sp_first (S : Sh) (x1 x2 : Int32) : Int32 × Sh := if fQ S x1 x2 = 0 then enc S (apF S (vr S x1) (vr S x2)) else tl S (fQ S x1 x2)
section CDIFF
variable {post : Int32 → CS → Prop} {C C0 : CS} {S : Sh} {x1 x2 x3 x4 x5 : Int32}
theorem lp_uneven {q : Nat → Bool} {n : Nat} (hc : ∀ v, v < 1024 → (cr C 13 v = 0 ↔ q v = false)) (hn : fstF q 1024 = n) (h : post (eN n) C) : ∀ k v, v + k = 1024 → (∀ u, u < v → q u = false) → w_X1_leastUneven_2 post (k + 1) C (nI v) := by
  intro k
  induction k with
  | zero =>
    intro v hv hq
    have e : v = 1024 := by omega
    subst e
    rw [fst_no (fun u hu => hq u hu)] at hn
    subst hn
    exact ⟨fun _ => h, fun q => absurd ((lt1023 (by omega)).mpr rfl) q⟩
  | succ k ih =>
    intro v hv hq
    have g := hc v (by omega)
    refine ⟨fun z => absurd ((lt1023 (by omega)).mp z) (by omega), fun _ => ⟨vin_nI (by omega) (by omega), fun z => ?_, fun z => ?_⟩⟩
    · rw [tn_nI (by omega)] at z
      rw [nI_1]
      refine ih (v + 1) (by omega) (fun u hu => ?_)
      by_cases e : u = v
      · subst e; exact g.mp z
      · exact hq u (by omega)
    · rw [tn_nI (by omega), g] at z
      rw [fst_eq hq (by simpa using z) (by omega)] at hn
      subst hn
      rw [eN, if_neg (by omega)] at h
      exact h
theorem pc_differ66 (hR : RelC C S) (hk : fD S x1 x2 x3 x4 x5 ≠ 0) (h : ∀ C', RelC C' (sp_differ S x1 x2 x3 x4 x5).2 → post (sp_differ S x1 x2 x3 x4 x5).1 C') : w_X3_differ_66 post C x1 x2 x3 x4 x5 (ng (fD S x1 x2 x3 x4 x5)) := by
  unfold sp_differ at h
  rw [if_neg hk] at h
  exact ⟨fun q => absurd ((ng_ne _ (fD_le S x1 x2 x3 x4 x5)).mp q) hk, fun _ => pc_told hR (fD_le S x1 x2 x3 x4 x5) hk h⟩
theorem pc_differ34 (hR : RelC C S) (h1 : fL S x1 = 0) (h4 : fL S x4 = 0) (h : ∀ C', RelC C' (sp_differ S x1 x2 x3 x4 x5).2 → post (sp_differ S x1 x2 x3 x4 x5).1 C') : w_X3_differ_34 post C x1 x2 x3 x4 x5 (ng (fS S x1 x2 x3)) := by
  have hD : fD S x1 x2 x3 x4 x5 = if fS S x1 x2 x3 = 0 then (if x5 < 0 then 1 else if (sL S (vr S x4) : Int) < x5.toInt + (x3.toInt - x2.toInt) then 1 else 0) else fS S x1 x2 x3 := by unfold fD; rw [if_pos h1, if_pos h4]
  refine ⟨fun e => ?_, fun e => ?_⟩
  · have e2 : ¬ fS S x1 x2 x3 = 0 := fun q => e (by rw [q]; rfl)
    rw [if_neg e2] at hD
    rw [← hD]
    exact pc_differ66 hR (by rw [hD]; exact e2) h
  · have e2 := (ng_ne _ (fS_le S x1 x2 x3)).mp e
    rw [if_pos e2] at hD
    obtain ⟨f0, f1, f2, f3⟩ := fS_0 e2
    obtain ⟨hi, a1, a2, a3, a4, a5, a6, a7, a8⟩ := hR.at h1
    obtain ⟨hj, b1, b2, b3, b4, b5, b6, b7, b8⟩ := hR.at h4
    obtain ⟨i, j, rfl, rfl, hij, hjl⟩ := span_nat a6 f1 f2 f3
    rw [nI_toInt (by omega), nI_toInt (by omega)] at hD
    have esub : (nI (sL S (vr S x4)) - nI (j - i)).toInt = (sL S (vr S x4) : Int) - ((j - i : Nat) : Int) := by
      rw [fb_subI] <;> rw [nI_toInt (by omega), nI_toInt (by omega)] <;> omega
    refine ⟨fun g => ?_, fun g => ⟨hj, fun w hw => ⟨_, hw.trans b1, b4, ?_⟩⟩⟩
    · rw [if_pos g] at hD
      have := pc_differ66 hR (by rw [hD]; decide) h
      rw [hD] at this; exact this
    · rw [b5, pk_sub hij]
      refine ⟨fun g2 => ?_, fun g2 => ?_⟩
      · rw [fa_le, esub] at g2
        rw [if_neg g, if_neg (by omega)] at hD
        unfold sp_differ at h
        rw [if_pos hD, sa_nI (by omega), sa_nI (by omega)] at h
        have h5 := tn_int g
        have hc0 : sa x5 + (j - i) ≤ sL S (vr S x4) := by unfold sa; omega
        refine ⟨fun _ => ⟨hi, fun w hw => ⟨_, hw.trans a1, a4, pc_lay4 hR a3 (fun C1 hs1 hz1 hF1 hR1 => ⟨hj, fun w2 hw2 => ⟨_, hw2.trans (by rw [hs1.co]; exact b1), by rw [hR1.n]; exact b3, pc_lay8 hR1 b3 (fun C2 hs2 hz2 hF2 hR2 => ?_)⟩⟩)⟩⟩, fun q => absurd (by rw [e2]; rfl) q⟩
        refine pc_clear (fun C3 hs3 h0 => ⟨j - i + 1, ?_⟩)
        have hx : ∀ m, m < sL S (vr S x1) → sX S (vr S x1) m < 1024 := fun m hm => hR.inv.2.2.2.2.2.2.1 _ m a3 hm
        have hy : ∀ m, m < sL S (vr S x4) → sX S (vr S x4) m < 1024 := fun m hm => hR.inv.2.2.2.2.2.2.1 _ m b3 hm
        refine lp_count4 (C0 := C3) (X := sX S (vr S x1)) (L := sL S (vr S x1)) (fun m hm => ⟨?_, hx m hm⟩) a6 hjl (j - i) i C3 (by omega) SameX.rf (fun C4 hs4 he4 => ?_)
        · rw [hs3.2.1 5 (by decide), hs2.2.1 5 (by decide)]; exact (hF1 m hm).1
        · rw [pk_sub hij, show x5 = nI (sa x5) from (nI_tn g).symm, nI_add]
          refine ⟨j - i + 1, ?_⟩
          refine lp_count8 (C0 := C4) (X := sX S (vr S x4)) (L := sL S (vr S x4)) (fun m hm => ⟨?_, hy m hm⟩) b6 hc0 (j - i) (sa x5) C4 rfl SameX.rf (fun C5 hs5 he5 => ?_)
          · rw [hs4.2.1 9 (by decide), hs3.2.1 9 (by decide)]; exact (hF2 m hm).1
          · have hR5 := ((hR2.same hs3 (by decide)).same hs4 (by decide)).same hs5 (by decide)
            obtain ⟨n, hn⟩ : ∃ n, fstF (fun v => decide (cnt (sX S (vr S x1)) i (j - i) v ≠ cnt (sX S (vr S x4)) (sa x5) (j - i) v)) 1024 = n := ⟨_, rfl⟩
            have hn4 : n ≤ 1024 := by rw [← hn]; exact fst_le _ _
            rw [hn] at h
            refine ⟨1024 + 1, lp_uneven (post := fun r30 C29 => w_X3_foundOrNone (fun r32 C31 => post r32 C31) C29 r30) (fun v hv => ?_) hn (pc_enc hR5 hn4 h) 1024 0 (by omega) (fun u hu => by omega)⟩
            have c1 := cntF_le (p := fun i => decide (sX S (vr S x1) i = v)) (j - i) i
            have c2 := cntF_le (p := fun i => decide (sX S (vr S x4) i = v)) (j - i) (sa x5)
            have e1 : cr C4 13 v = nI (cnt (sX S (vr S x1)) i (j - i) v) := by
              rw [he4, cadd_val, h0 v hv]
              have := addN_1 (cnt (sX S (vr S x1)) i (j - i) v) 0
              rw [Nat.zero_add] at this
              exact this
            have c1' : cnt (sX S (vr S x1)) i (j - i) v ≤ j - i := c1
            have c2' : cnt (sX S (vr S x4)) (sa x5) (j - i) v ≤ j - i := c2
            have e2 : (cr C5 13 v).toInt = (cnt (sX S (vr S x1)) i (j - i) v : Int) - (cnt (sX S (vr S x4)) (sa x5) (j - i) v : Int) := by
              rw [he5, cadd_val, e1, addN_m _ _ (by omega) (by rw [nI_toInt (by omega)]; omega) (by rw [nI_toInt (by omega)]; omega), nI_toInt (by omega)]
            rw [fa_eq, e2]
            have e3 : (0 : Int32).toInt = 0 := rfl
            simp only [ne_eq, decide_not, Bool.not_eq_false', decide_eq_true_eq]
            omega
      · rw [fa_le, esub] at g2
        rw [if_neg g, if_pos (by omega)] at hD
        have := pc_differ66 hR (by rw [hD]; decide) h
        rw [hD] at this; exact this
theorem pc_differ (hR : RelC C S) (h : ∀ C', RelC C' (sp_differ S x1 x2 x3 x4 x5).2 → post (sp_differ S x1 x2 x3 x4 x5).1 C') : w_X3_differ post C x1 x2 x3 x4 x5 := by
  have key : ∀ k, k ≠ 0 → k ≤ 6 → fD S x1 x2 x3 x4 x5 = k → w_X3_differ_20 post C x1 x2 x3 x4 x5 (ng k) := fun k hk hk6 e => by
    have hne : ¬ ng k = 0 := fun q => hk ((ng_ne k hk6).mp q)
    have h66 := pc_differ66 hR (by rw [e]; exact hk) h
    rw [e] at h66
    exact ⟨fun _ => ⟨fun _ => h66, fun q => absurd q hne⟩, fun q => absurd q hne⟩
  refine pc_findP hR ⟨fun e => ?_, fun e => ?_⟩
  · have e2 : ¬ fL S x1 = 0 := fun q => e (by rw [q]; rfl)
    exact key _ e2 (fL_le S x1) (by unfold fD; rw [if_neg e2])
  · have e2 := (ng_ne _ (fL_le S x1)).mp e
    refine pc_findP hR ?_
    by_cases e4 : fL S x4 = 0
    · rw [e4]
      exact ⟨fun q => absurd rfl q, fun _ => pc_findS hR (pc_differ34 hR e2 e4 h)⟩
    · exact key _ e4 (fL_le S x4) (by unfold fD; rw [if_pos e2, if_neg e4])
theorem lp_apart {v u : Nat} {n : Nat} (hX : ∀ m, m < sL S v → cr C 5 m = nI (sX S v m) ∧ cr C 6 m = sW S v m ∧ sX S v m < 1024) (hY : ∀ m, m < sL S u → cr C 9 m = nI (sX S u m) ∧ cr C 10 m = sW S u m ∧ sX S u m < 1024) (hv : sL S v ≤ 400) (hu : sL S u ≤ 400) (h3 : cz C 3 = nI (sL S v)) (h4 : cz C 4 = nI (sL S u)) (hn : apF S v u = n) (h : post (eN n) C) : ∀ k i, i + k = min (sL S v) (sL S u) → (∀ m, m < i → decide (sX S v m ≠ sX S u m ∨ sW S v m ≠ sW S u m) = false) → w_X0_placeApartFrom_14 post (k + 1) C (nI (min (sL S v) (sL S u))) (nI i) := by
  intro k
  induction k with
  | zero =>
    intro i hi hq
    have ei : i = min (sL S v) (sL S u) := by omega
    rw [ei] at hq
    unfold apF at hn
    rw [fst_no hq] at hn
    refine ⟨fun _ => ⟨fun q => ?_, fun q => ?_⟩, fun q => absurd (nI_le (by omega) (by omega)) q⟩
    · rw [h3, h4, nI_eq (by omega) (by omega)] at q
      rw [if_neg (fun z => q z.2)] at hn
      subst hn
      rw [eN, if_neg (by omega)] at h
      exact h
    · rw [h3, h4, nI_eq (by omega) (by omega)] at q
      rw [if_pos ⟨rfl, q⟩] at hn
      subst hn
      exact h
  | succ k ih =>
    intro i hi hq
    obtain ⟨g1, g2, g3⟩ := hX i (by omega)
    obtain ⟨g4, g5, g6⟩ := hY i (by omega)
    have stop : decide (sX S v i ≠ sX S u i ∨ sW S v i ≠ sW S u i) = true → post (nI i) C := fun z => by
      unfold apF at hn
      rw [fst_eq hq z (by omega)] at hn
      rw [if_neg (fun y => by omega)] at hn
      subst hn
      rw [eN, if_neg (by omega)] at h
      exact h
    refine ⟨fun q => absurd q (nI_ge (by omega) (by omega)), fun _ => ⟨vin_nI (by omega) (by omega), fun q => ?_, fun q => ⟨fun q2 => ?_, fun q2 => ?_⟩⟩⟩
    · rw [tn_nI (by omega), g1, g4, nI_eq (by omega) (by omega)] at q
      exact stop (by simp [q])
    · rw [tn_nI (by omega), g1, g4, nI_eq (by omega) (by omega)] at q
      rw [tn_nI (by omega), g2, g5] at q2
      rw [nI_1]
      refine ih (i + 1) (by omega) (fun m hm => ?_)
      by_cases e : m = i
      · subst e; simp [q, q2]
      · exact hq m (by omega)
    · rw [tn_nI (by omega), g2, g5] at q2
      exact stop (by simp [q2])
theorem apF_le {v u : Nat} (hv : sL S v ≤ 400) : apF S v u ≤ 1024 := by
  unfold apF
  have := fst_le (fun i => decide (sX S v i ≠ sX S u i ∨ sW S v i ≠ sW S u i)) (min (sL S v) (sL S u))
  split <;> omega
theorem pc_first16 (hR : RelC C S) (h : ∀ C', RelC C' (sp_first S x1 x2).2 → post (sp_first S x1 x2).1 C') : w_X3_first_16 post C x1 x2 (ng (fQ S x1 x2)) := by
  unfold sp_first at h
  refine ⟨fun e => ?_, fun e => ?_⟩
  · have e := (ng_ne _ (fQ_le S x1 x2)).mp e
    rw [if_pos e] at h
    have h1 : fL S x1 = 0 := by
      unfold fQ at e
      by_cases q : fL S x1 = 0
      · exact q
      · rw [if_neg q] at e; exact e
    have h2 : fL S x2 = 0 := by unfold fQ at e; rw [if_pos h1] at e; exact e
    obtain ⟨hi, a1, a2, a3, a4, a5, a6, a7, a8⟩ := hR.at h1
    obtain ⟨hj, b1, b2, b3, b4, b5, b6, b7, b8⟩ := hR.at h2
    refine ⟨hi, fun w hw => ⟨_, hw.trans a1, a4, pc_lay4 hR a3 (fun C1 hs1 hz1 hF1 hR1 => ⟨hj, fun w2 hw2 => ⟨_, hw2.trans (by rw [hs1.co]; exact b1), by rw [hR1.n]; exact b3, pc_lay8 hR1 b3 (fun C2 hs2 hz2 hF2 hR2 => ?_)⟩⟩)⟩⟩
    have hx : ∀ m, m < sL S (vr S x1) → sX S (vr S x1) m < 1024 := fun m hm => hR.inv.2.2.2.2.2.2.1 _ m a3 hm
    have hy : ∀ m, m < sL S (vr S x2) → sX S (vr S x2) m < 1024 := fun m hm => hR.inv.2.2.2.2.2.2.1 _ m b3 hm
    have e3 : cz C2 3 = nI (sL S (vr S x1)) := (hs2.1 3 (by decide)).trans hz1
    have em : (if cz C2 4 < cz C2 3 then cz C2 4 else cz C2 3) = nI (min (sL S (vr S x1)) (sL S (vr S x2))) := by
      rw [e3, hz2]
      by_cases q : sL S (vr S x2) < sL S (vr S x1)
      · rw [if_pos (nI_lt q (by omega)), Nat.min_eq_right (by omega)]
      · rw [if_neg (nI_nlt (by omega) (by omega)), Nat.min_eq_left (by omega)]
    refine ⟨min (sL S (vr S x1)) (sL S (vr S x2)) + 1, ?_⟩
    rw [em]
    obtain ⟨n, hn⟩ : ∃ n, apF S (vr S x1) (vr S x2) = n := ⟨_, rfl⟩
    have hn4 : n ≤ 1024 := by rw [← hn]; exact apF_le a6
    rw [hn] at h
    refine lp_apart (post := fun r18 C17 => w_X3_foundOrNone (fun r20 C19 => post r20 C19) C17 r18) (S := S) (v := vr S x1) (u := vr S x2) (fun m hm => ⟨?_, ?_, hx m hm⟩) (fun m hm => ⟨(hF2 m hm).1, (hF2 m hm).2, hy m hm⟩) a6 b6 e3 hz2 hn (pc_enc hR2 hn4 h) _ 0 (by omega) (fun m hm => by omega)
    · rw [hs2.2.1 5 (by decide)]; exact (hF1 m hm).1
    · rw [hs2.2.1 6 (by decide)]; exact (hF1 m hm).2
  · have e2 : ¬ fQ S x1 x2 = 0 := fun q => e (by rw [q]; rfl)
    rw [if_neg e2] at h
    exact pc_told hR (fQ_le S x1 x2) e2 h
theorem pc_first (hR : RelC C S) (h : ∀ C', RelC C' (sp_first S x1 x2).2 → post (sp_first S x1 x2).1 C') : w_X3_first post C x1 x2 := by
  have h16 := pc_first16 hR h
  refine pc_findP hR ⟨fun e => ?_, fun e => ?_⟩
  · have e2 : ¬ fL S x1 = 0 := fun q => e (by rw [q]; rfl)
    have : fQ S x1 x2 = fL S x1 := by unfold fQ; rw [if_neg e2]
    rw [this] at h16; exact h16
  · have e2 := (ng_ne _ (fL_le S x1)).mp e
    have : fQ S x1 x2 = fL S x2 := by unfold fQ; rw [if_pos e2]
    rw [this] at h16
    exact pc_findP hR h16
end CDIFF
