section PMI
variable {post : Int32 → MS → Prop} {M M0 : MS} {S : Sh} {x1 x2 x3 x4 x5 : Int32}
theorem pm_push (hR : RelM M S) (h : ∀ M', RelM M' (sp_push S x1 x2 x3 x4).2 → post (sp_push S x1 x2 x3 x4).1 M') : w_X4_push post M x1 x2 x3 x4 := by
  unfold sp_push at h
  refine pm_lookG hR (fun e => ?_) (fun e => ?_)
  · rw [if_neg e] at h; exact pm_notG hR e h
  · rw [if_pos e] at h
    obtain ⟨f0, f1⟩ := fG_0 e
    obtain ⟨hi, a1, a2, a3, a4, a5⟩ := hR.at f0
    have t1 : (∀ M', RelM M' (tl S 1).2 → post (tl S 1).1 M') → w_X4_push_58 post M := fun h1 => pm_ans (k := 1) hR (by decide) (by decide) h1
    refine ⟨fun g => ?_, fun g => ⟨fun g2 => ?_, fun g2 => ?_⟩⟩
    · rw [if_pos (noX_t (Or.inl g))] at h; exact t1 h
    · rw [if_pos (noX_t (Or.inr (lt1024.mp g2)))] at h; exact t1 h
    · have g3 : ¬ (1023 : Int32) < x2 := fun z => g2 (lt1024.mpr z)
      rw [if_neg (noX_f g g3)] at h
      obtain ⟨ex, hx2⟩ := val_lt g g3
      refine pm_place (fun hj p0 p1 => ⟨fun _ => pm_size hR f0 ?_, fun q => absurd q (by decide)⟩) (fun hb => ⟨fun q => absurd rfl q, fun _ => ?_⟩)
      · rw [if_neg (noP_f p0 p1)] at h
        have t5 : (∀ M', RelM M' (tl S 5).2 → post (tl S 5).1 M') → w_X4_push_97 post M := fun h1 => pm_ans (k := 5) hR (by decide) (by decide) h1
        obtain ⟨r1, r2⟩ := pm_room hR (d := 1) (by omega)
        have r2 : mz M 7 + 1 ≤ (20000 : Int32) ↔ ¬ 20000 < sM S + 1 := r2
        show (nI (sL S (vr S x1)) = (400 : Int32) → _) ∧ (¬ nI (sL S (vr S x1)) = (400 : Int32) → _)
        rw [show (400 : Int32) = nI 400 from rfl, nI_eq (by omega) (by omega)]
        refine ⟨fun q => ?_, fun q => ⟨fun q2 => ?_, fun q2 => ⟨fun q3 => ?_, fun q3 => ?_⟩⟩⟩
        · rw [if_pos (by simp; omega)] at h; exact t5 h
        · rw [if_pos (by simp [full, r1.mp q2])] at h; exact t5 h
        · have q2 : ¬ 500 ≤ sV S := fun z => q2 (r1.mpr z)
          have q3 := r2.mp q3
          rw [if_neg (by simp [full]; omega)] at h
          obtain ⟨en, fr, hE⟩ := hR.ends
          have he7 := hE.2.1
          have hr9 := hR.ver e
          refine pm_size hR f0 ?_
          show w_X4_begin _ M (mr M 9 (Int32.toNatClampNeg x1)) (nI (sL S (vr S x1)))
          rw [hr9]
          refine pm_begin (x := upX (sX S (vr S x1)) (sL S (vr S x1)) x2.toNatClampNeg) (w := upd (sW S (vr S x1)) (sL S (vr S x1)) x3) hR hE a2 (by omega) (Nat.le_refl _) (fun t ht => ?_) (fun M1 hG1 => ?_)
          · unfold upX; rw [if_neg (by omega), pk_un (by omega)]; exact ⟨rfl, rfl⟩
          · show w_X4_add _ M1 x2 x3
            have ex2 : x2 = nI (upX (sX S (vr S x1)) (sL S (vr S x1)) x2.toNatClampNeg (sL S (vr S x1))) := by unfold upX; rw [if_pos rfl]; exact ex
            have ex3 : x3 = upd (sW S (vr S x1)) (sL S (vr S x1)) x3 (sL S (vr S x1)) := by rw [pk_us]
            have hlt : upX (sX S (vr S x1)) (sL S (vr S x1)) x2.toNatClampNeg (sL S (vr S x1)) < 1024 := by unfold upX; rw [if_pos rfl]; exact hx2
            have := pm_add (post := fun C12 => w_X4_finish (fun r15 C14 => post r15 C14) (mzu C12 7 (mz C12 7 + 1)) (nI (sV S)) x4) hG1 (by omega) (by omega) hlt (fun M2 hG2 => pm_finish (d := 1) hR hE a2 (by omega) (by omega) (by omega) (fun i hi2 => ?_) (hG2.made (d := 1)) hj (fun M' hR' => h M' hR'))
            · rw [← ex2, ← ex3] at this
              exact this
            · unfold upX
              by_cases z : i = sL S (vr S x1)
              · rw [if_pos z]; exact hx2
              · rw [if_neg z]; exact hR.inv.2.2.2.2.2.2.1 _ i a2 (by omega)
        · have q3 : 20000 < sM S + 1 := Classical.not_not.mp (fun z => q3 (r2.mpr z))
          rw [if_pos (by simp [full, q3])] at h; exact t5 h
      · rw [if_pos (noP_t hb)] at h; exact t1 h
theorem pm_cut (hR : RelM M S) (h : ∀ M', RelM M' (sp_cut S x1 x2 x3).2 → post (sp_cut S x1 x2 x3).1 M') : w_X4_cut post M x1 x2 x3 := by
  unfold sp_cut at h
  refine pm_lookG hR (fun e => ?_) (fun e => ?_)
  · rw [if_neg e] at h; exact pm_notG hR e h
  · rw [if_pos e] at h
    obtain ⟨f0, f1⟩ := fG_0 e
    obtain ⟨hi, a1, a2, a3, a4, a5⟩ := hR.at f0
    have t1 : (∀ M', RelM M' (tl S 1).2 → post (tl S 1).1 M') → w_X4_cut_66 post M := fun h1 => pm_ans (k := 1) hR (by decide) (by decide) h1
    refine ⟨fun g => ?_, fun g => ?_⟩
    · have g := Int32.not_lt.mpr g
      rw [if_neg g] at h
      refine pm_size hR f0 ⟨fun g2 => ?_, fun g2 => ?_⟩
      · rw [if_pos g2] at h; exact t1 h
      · rw [if_neg g2] at h
        have h2 := tn_int g
        rw [fa_lt, nI_toInt (by omega)] at g2
        refine pm_place (fun hj p0 p1 => ⟨fun _ => ?_, fun q => absurd q (by decide)⟩) (fun hb => ⟨fun q => absurd rfl q, fun _ => ?_⟩)
        · rw [if_neg (noP_f p0 p1)] at h
          obtain ⟨r1, r2⟩ := pm_room hR (d := 0) (by omega)
          have hm3 := hR.inv.2.2.1
          refine ⟨fun q => ?_, fun q => ?_⟩
          · have q : ¬ 500 ≤ sV S := fun z => q (r1.mpr z)
            rw [if_neg (by simp [full]; omega)] at h
            obtain ⟨en, fr, hE⟩ := hR.ends
            have he7 := hE.2.1
            have hr9 := hR.ver e
            rw [hr9]
            obtain ⟨n, hne⟩ : ∃ n, x2.toNatClampNeg = n := ⟨_, rfl⟩
            have ex : x2 = nI n := by rw [← hne]; exact (nI_tn g).symm
            rw [hne] at h h2
            rw [ex]
            refine pm_begin (x := sX S (vr S x1)) (w := sW S (vr S x1)) hR hE a2 (by omega) (by omega) (fun t ht => ⟨rfl, rfl⟩) (fun M1 hG1 => ?_)
            exact pm_finish (d := 0) hR hE a2 (by omega) (by omega) (by omega) (fun i hi2 => hR.inv.2.2.2.2.2.2.1 _ i a2 (by omega)) hG1 hj (fun M' hR' => h M' hR')
          · rw [if_pos (by simp [full, r1.mp q])] at h
            exact pm_ans (k := 5) hR (by decide) (by decide) h
        · rw [if_pos (noP_t hb)] at h; exact t1 h
    · rw [if_pos (Int32.not_le.mp g)] at h
      exact pm_ans (k := 4) hR (by decide) (by decide) h
theorem lm_join {i j en : Nat} {fr : Nat → Nat} (hR : RelM M0 S) (hE : EN M0 S en fr) (h2 : fL S x2 = 0) {v L : Nat} (hv : v < sV S) (hn : sV S < 500) (hL : L = sL S v) (hij : i ≤ j) (hj : j ≤ sL S (vr S x2)) (hLj : L + (j - i) ≤ 400) (hm : sM S + (j - i) ≤ 20000) (h5 : vp_in x5 12) (h : ∀ M', RelM M' (putS (newS S v (L + (j - i)) (behind (sX S v) (sX S (vr S x2)) L i) (behind (sW S v) (sW S (vr S x2)) L i) (j - i)) x5.toNatClampNeg 1 (sV S)) → post (nI (sV S)) M') : ∀ k a M, a + k = j → i ≤ a → GM M0 S en v (L + (a - i)) (behind (sX S v) (sX S (vr S x2)) L i) (behind (sW S v) (sW S (vr S x2)) L i) (nI (sM S)) M → w_X4_join_148 post (k + 1) M x2 (nI j) x5 (nI (j - i)) (nI (sV S)) (nI a) := by
  obtain ⟨hi1, a1, a2, a3, a4, a5⟩ := hR.at h2
  have he7 := hE.2.1
  have hxb : ∀ t, t < L + (j - i) → behind (sX S v) (sX S (vr S x2)) L i t < 1024 := fun t ht => by
    unfold behind
    by_cases z : t < L
    · rw [if_pos z]; exact hR.inv.2.2.2.2.2.2.1 _ t hv (by omega)
    · rw [if_neg z]; exact hR.inv.2.2.2.2.2.2.1 _ _ a2 (by omega)
  intro k
  induction k with
  | zero =>
    intro a M ha hia hG
    have e : a = j := by omega
    subst e
    exact ⟨fun _ => pm_finish (d := a - i) hR hE hv hn hm hLj hxb hG.made h5 h, fun q => absurd (nI_le (by omega) (by omega)) q⟩
  | succ k ih =>
    intro a M ha hia hG
    refine ⟨fun q => absurd q (nI_ge (by omega) (by omega)), fun _ => pm_valG hR hE hG h2 (by omega) (pm_wtG hR hE hG h2 (by omega) ?_)⟩
    show w_X4_add (fun C23 => w_X4_join_148 post (k + 1) C23 x2 (nI j) x5 (nI (j - i)) (nI (sV S)) (nI a + 1)) M (nI (sX S (vr S x2) a)) (sW S (vr S x2) a)
    have e1 : sX S (vr S x2) a = behind (sX S v) (sX S (vr S x2)) L i (L + (a - i)) := by
      unfold behind; rw [if_neg (by omega)]; congr 1; omega
    have e2 : sW S (vr S x2) a = behind (sW S v) (sW S (vr S x2)) L i (L + (a - i)) := by
      unfold behind; rw [if_neg (by omega)]; congr 1; omega
    rw [e1, e2]
    refine pm_add hG (by omega) (by omega) (hxb _ (by omega)) (fun M' hG' => ?_)
    rw [nI_1]
    rw [show L + (a - i) + 1 = L + (a + 1 - i) by omega] at hG'
    exact ih (a + 1) M' (by omega) (by omega) hG'
theorem pm_join (hR : RelM M S) (h : ∀ M', RelM M' (sp_join S x1 x2 x3 x4 x5).2 → post (sp_join S x1 x2 x3 x4 x5).1 M') : w_X4_join post M x1 x2 x3 x4 x5 := by
  unfold sp_join at h
  refine pm_lookG hR (fun e => ?_) (fun e => ?_)
  · have hJ : fJ S x1 x2 x3 x4 = fG S x1 := by unfold fJ; rw [if_neg e]
    rw [hJ, if_neg e] at h; exact pm_notG hR e h
  · have hJ : fJ S x1 x2 x3 x4 = fS S x2 x3 x4 := by unfold fJ; rw [if_pos e]
    rw [hJ] at h
    obtain ⟨f0, f1⟩ := fG_0 e
    obtain ⟨hi, a1, a2, a3, a4, a5⟩ := hR.at f0
    refine pm_atSpan hR (fun e2 => ⟨fun _ => ?_, fun q => absurd ((ng_lt _ (fS_le S x2 x3 x4)).1.mpr e2) q⟩) (fun i j e2 ei ej hij hjl hL hv h0 => ⟨fun q => absurd q (by decide), fun _ => ?_⟩)
    · rw [if_neg e2] at h
      exact pm_two (k := fS S x2 x3 x4) (e := 1) hR (fS_le S x2 x3 x4) (by decide) (by decide) (by rw [if_neg e2]; exact h)
    · subst ei ej
      rw [if_pos e2, sa_nI (by omega), sa_nI (by omega)] at h
      refine pm_place (fun hj p0 p1 => ⟨fun _ => pm_size hR f0 ?_, fun q => absurd q (by decide)⟩) (fun hb => ⟨fun q => absurd rfl q, fun _ => ?_⟩)
      · rw [if_neg (noP_f p0 p1)] at h
        have t5 : (∀ M', RelM M' (tl S 5).2 → post (tl S 5).1 M') → w_X4_join_121 post M := fun h1 => pm_ans (k := 5) hR (by decide) (by decide) h1
        obtain ⟨r1, r2⟩ := pm_room hR (d := j - i) (by omega)
        show ((400 : Int32) < nI (sL S (vr S x1)) + (nI j - nI i) → _) ∧ (¬ (400 : Int32) < nI (sL S (vr S x1)) + (nI j - nI i) → _)
        rw [pk_sub hij, nI_add, show (400 : Int32) = nI 400 from rfl, nI_ltI (by omega) (by omega)]
        refine ⟨fun q => ?_, fun q => ⟨fun q2 => ?_, fun q2 => ⟨fun q3 => ?_, fun q3 => ?_⟩⟩⟩
        · rw [if_pos (by simp [q])] at h; exact t5 h
        · rw [if_pos (by simp [full, r1.mp q2])] at h; exact t5 h
        · have q2 : ¬ 500 ≤ sV S := fun z => q2 (r1.mpr z)
          have q3 := r2.mp q3
          rw [if_neg (by simp [full]; omega)] at h
          obtain ⟨en, fr, hE⟩ := hR.ends
          have he7 := hE.2.1
          have hr9 := hR.ver e
          refine pm_size hR f0 ?_
          show w_X4_begin _ M (mr M 9 (Int32.toNatClampNeg x1)) (nI (sL S (vr S x1)))
          rw [hr9]
          refine pm_begin (x := behind (sX S (vr S x1)) (sX S (vr S x2)) (sL S (vr S x1)) i) (w := behind (sW S (vr S x1)) (sW S (vr S x2)) (sL S (vr S x1)) i) hR hE a2 (by omega) (Nat.le_refl _) (fun t ht => ?_) (fun M1 hG1 => ⟨j - i + 1, ?_⟩)
          · unfold behind; rw [if_pos ht, if_pos ht]; exact ⟨rfl, rfl⟩
          · refine lm_join hR hE h0 a2 (by omega) rfl hij hjl (by omega) (by omega) hj h (j - i) i M1 (by omega) (Nat.le_refl _) ?_
            rw [Nat.sub_self, Nat.add_zero]; exact hG1
        · have q3 : 20000 < sM S + (j - i) := Classical.not_not.mp (fun z => q3 (r2.mpr z))
          rw [if_pos (by simp [full, q3])] at h; exact t5 h
      · rw [if_pos (noP_t hb)] at h
        exact pm_two (k := 0) (e := 1) hR (by decide) (by decide) (by decide) h
theorem GM.turned {en v m i a : Nat} {x : Nat → Nat} {w : Nat → Int32} {z7 b : Int32} (hG : GM M0 S en v m x w z7 M) (hi : i < m) : GM M0 S en v m (upX x i a) (upd w i b) z7 (mru (mru M 4 (upd (mr M 4) (en + i) (nI a))) 5 (upd (mr M 5) (en + i) b)) := by
  obtain ⟨g0, g7, g14, g6, g1, g3, gk, gp, gt⟩ := hG
  refine ⟨g0, g7, g14, g6, g1, g3, fun k h1 h3 h4 h5 => ?_, fun p hp => ?_, fun t ht => ?_⟩
  · show va_up (va_up (mr M) 4 _) 5 _ k = mr M0 k
    rw [va_up_ne _ _ h5, va_up_ne _ _ h4]; exact gk k h1 h3 h4 h5
  · show upd (mr M 4) (en + i) _ p = mr M0 4 p ∧ upd (mr M 5) (en + i) _ p = mr M0 5 p
    rw [pk_un (by omega), pk_un (by omega)]; exact gp p hp
  · show upd (mr M 4) (en + i) (nI a) (en + t) = nI (upX x i a t) ∧ upd (mr M 5) (en + i) b (en + t) = upd w i b t
    unfold upX
    by_cases e : t = i
    · subst e; rw [pk_us, pk_us, pk_us, if_pos rfl]; exact ⟨rfl, rfl⟩
    · rw [pk_un (by omega), pk_un (by omega), pk_un e, if_neg e]; exact gt t ht
theorem pm_turn (hR : RelM M S) (h : ∀ M', RelM M' (sp_turn S x1 x2 x3 x4).2 → post (sp_turn S x1 x2 x3 x4).1 M') : w_X4_turn post M x1 x2 x3 x4 := by
  unfold sp_turn at h
  refine pm_lookG hR (fun e => ?_) (fun e => ?_)
  · rw [if_neg e] at h; exact pm_notG hR e h
  · rw [if_pos e] at h
    obtain ⟨f0, f1⟩ := fG_0 e
    obtain ⟨hi, a1, a2, a3, a4, a5⟩ := hR.at f0
    have t1 : (∀ M', RelM M' (tl S 1).2 → post (tl S 1).1 M') → w_X4_turn_67 post M := fun h1 => pm_ans (k := 1) hR (by decide) (by decide) h1
    have t5 : (∀ M', RelM M' (tl S 5).2 → post (tl S 5).1 M') → w_X4_turn_98 post M := fun h1 => pm_ans (k := 5) hR (by decide) (by decide) h1
    refine pm_size hR f0 ⟨fun g => ?_, fun g => ⟨fun g2 => ?_, fun g2 => ?_⟩⟩
    · rw [if_pos g] at h; exact t1 h
    · rw [if_neg g, if_pos g2] at h; exact t1 h
    · rw [if_neg g, if_neg g2] at h
      obtain ⟨i, rfl, hil⟩ := idx_nat a3 g g2
      rw [sa_nI (by omega)] at h
      refine ⟨fun q => ?_, fun q => ⟨fun q2 => ?_, fun q2 => ?_⟩⟩
      · rw [if_pos (noX_t (Or.inl q))] at h; exact t1 h
      · have q3 : ¬ (1023 : Int32) < x3 := fun z => absurd (lt1024.mpr z) (Int32.not_le.mpr q2)
        rw [if_neg (noX_f q q3)] at h
        obtain ⟨ex, hx2⟩ := val_lt q q3
        obtain ⟨r1, r2⟩ := pm_room hR (d := sL S (vr S x1) - i) (by omega)
        have er : mz M 7 + nI (sL S (vr S x1)) - nI i = mz M 7 + nI (sL S (vr S x1) - i) := by
          have h7 : mz M 7 = nI (sM S) := hR.2.2.1
          rw [h7, nI_add, nI_add, pk_sub (by omega)]; congr 1; omega
        rw [er]
        refine ⟨fun q4 => ?_, fun q4 => ⟨fun q5 => ?_, fun q5 => ?_⟩⟩
        · rw [if_pos (by simp [full, r1.mp q4])] at h; exact t5 h
        · have q4 : ¬ 500 ≤ sV S := fun z => q4 (r1.mpr z)
          have q5 := r2.mp q5
          rw [if_neg (by simp [full]; omega)] at h
          obtain ⟨en, fr, hE⟩ := hR.ends
          have he7 := hE.2.1
          have hr9 := hR.ver e
          rw [hr9]
          refine pm_begin (x := sX S (vr S x1)) (w := sW S (vr S x1)) hR hE a2 (by omega) (Nat.le_refl _) (fun t ht => ⟨rfl, rfl⟩) (fun M1 hG1 => ⟨vin_nI (by omega) (by omega), ?_⟩)
          have h1e : mr M1 1 (sV S) = nI en := by rw [hG1.2.2.2.2.1, pk_us]
          rw [tn_nI (n := sV S) (by omega), h1e, nI_add, tn_nI (n := en + i) (by omega), pk_sub (by omega)]
          refine ⟨vin_nI (by omega) (by omega), ?_⟩
          have hsh : vp_nar .short (Int16.toInt32 (Int32.toInt16 x3)) = nI x3.toNatClampNeg := by
            conv => lhs; rw [ex]
            exact sh_id hx2
          rw [hsh]
          have hG2 := (hG1.turned (a := x3.toNatClampNeg) (b := x4) hil).made (d := sL S (vr S x1) - i)
          refine pm_finish (d := sL S (vr S x1) - i) hR hE a2 (by omega) (by omega) (by omega) (fun t ht => ?_) hG2 hi (fun M' hR' => h M' hR')
          unfold upX
          by_cases z : t = i
          · rw [if_pos z]; exact hx2
          · rw [if_neg z]; exact hR.inv.2.2.2.2.2.2.1 _ t a2 ht
        · have q5 : 20000 < sM S + (sL S (vr S x1) - i) := Classical.not_not.mp (fun z => q5 (r2.mpr z))
          rw [if_pos (by simp [full, q5])] at h; exact t5 h
      · rw [if_pos (noX_t (Or.inr (lt1024.mp (Int32.not_lt.mp q2))))] at h; exact t1 h
end PMI
