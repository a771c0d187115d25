theorem fst_eq {p : Nat → Bool} {n v : Nat} (h1 : ∀ k, k < v → p k = false) (h2 : p v = true) (hv : v < n) : fstF p n = v := by
  unfold fstF
  have a1 := fa_first_le p n
  rcases Nat.lt_trichotomy (fa_first p n) v with h | h | h
  · have := fa_first_yes p n (by omega)
    rw [h1 _ h] at this; cases this
  · exact h
  · have := fa_first_no p n v h
    rw [h2] at this; cases this
theorem fst_no {p : Nat → Bool} {n : Nat} (h : ∀ k, k < n → p k = false) : fstF p n = n := by
  unfold fstF
  have a1 := fa_first_le p n
  rcases Nat.lt_or_ge (fa_first p n) n with q | q
  · have := fa_first_yes p n q
    rw [h _ q] at this; cases this
  · omega
theorem fst_le (p : Nat → Bool) (n : Nat) : fstF p n ≤ n := fa_first_le p n
theorem fold_acc {p : Nat → Bool} : ∀ k a n, fold (fun i n => if p i = true then n + 1 else n) a k n = n + cntF p a k := by
  intro k
  induction k with
  | zero => intro a n; rfl
  | succ k ih =>
    intro a n
    unfold cntF
    rw [fold, fold, ih, ih]
    split <;> omega
theorem cntF_succ {p : Nat → Bool} {a k : Nat} : cntF p a (k + 1) = (if p a = true then 1 else 0) + cntF p (a + 1) k := by
  show fold _ a (k + 1) 0 = _
  rw [fold, fold_acc]
theorem cntF_le {p : Nat → Bool} : ∀ k a, cntF p a k ≤ k := by
  intro k
  induction k with
  | zero => intro a; exact Nat.le_refl 0
  | succ k ih =>
    intro a
    have := ih (a + 1)
    rw [cntF_succ]
    split <;> omega
theorem cntF_congr {p q : Nat → Bool} {a k : Nat} (h : ∀ i, a ≤ i → i < a + k → p i = q i) : cntF p a k = cntF q a k := fold_congr (fun i r h1 h2 => by rw [h i h1 h2])
def addN (y : Int32) : Nat → Int32 → Int32
  | 0, t => t
  | n + 1, t => addN y n (t + y)
theorem addN_1 : ∀ n m, addN 1 n (nI m) = nI (m + n) := by
  intro n
  induction n with
  | zero => intro m; rfl
  | succ n ih => intro m; rw [addN, nI_1, ih]; congr 1; omega
theorem addN_m : ∀ (n : Nat) (t : Int32), n ≤ 1000 → -1000 ≤ t.toInt - n → t.toInt ≤ 1000 → (addN (-1) n t).toInt = t.toInt - n := by
  intro n
  induction n with
  | zero => intro t _ _ _; show t.toInt = t.toInt - ((0 : Nat) : Int); omega
  | succ n ih =>
    intro t h0 h1 h2
    have e1 : (-1 : Int32).toInt = -1 := rfl
    have e2 : (t + (-1)).toInt = t.toInt + (-1) := by rw [fb_addI (by rw [e1]; omega) (by rw [e1]; omega), e1]
    rw [addN, ih _ (by omega) (by rw [e2]; omega) (by rw [e2]; omega), e2]
    omega
theorem cadd_val {X : Nat → Nat} {y : Int32} {v : Nat} : ∀ k a g, fold (fun i (g : Nat → Int32) => upd g (X i) (g (X i) + y)) a k g v = addN y (cnt X a k v) (g v) := by
  intro k
  induction k with
  | zero => intro a g; rfl
  | succ k ih =>
    intro a g
    unfold cnt at ih ⊢
    rw [fold, ih, cntF_succ]
    by_cases e : X a = v
    · rw [if_pos (by simp [e]), e, pk_us, Nat.add_comm 1 (cntF _ _ _)]; rfl
    · rw [if_neg (by simp [e]), pk_un (fun q => e q.symm), Nat.zero_add]
section CTALLY
variable {post : Int32 → CS → Prop} {C C0 : CS} {S : Sh} {X Y : Nat → Nat} {L b : Nat} {x1 x2 x3 x4 x5 : Int32}
theorem lp_fill13 {post : CS → Prop} {x : Int32} (hp : ∀ C', SameX [] [13] C0 C' → (∀ m, m < 1024 → cr C' 13 m = x) → post C') : ∀ k i C, i + k = 1024 → SameX [] [13] C0 C → (∀ m, m < i → cr C 13 m = x) → w_J7_fill13_5 post (k + 1) C x (nI i) (nI 1024) := by
  intro k
  induction k with
  | zero => intro i C hi hs hf; exact ⟨fun _ => hp C hs (fun m hm => hf m (by omega)), fun q => absurd (nI_le (by omega) (by omega)) q⟩
  | succ k ih =>
    intro i C hi hs hf
    refine ⟨fun q => absurd q (nI_ge (by omega) (by omega)), fun _ => ⟨vin_nI (by omega) (by omega), ?_⟩⟩
    rw [nI_1]
    refine ih (i + 1) _ (by omega) (hs.tr (SameX.r (by decide))) (fun m hm => ?_)
    show upd (cr C 13) (nI i).toNatClampNeg x m = x
    rw [tn_nI (by omega)]
    by_cases e : m = i
    · subst e; rw [pk_us]
    · rw [pk_un e]; exact hf m (by omega)
theorem lp_fill14 {post : CS → Prop} {x : Int32} (hp : ∀ C', SameX [] [14] C0 C' → (∀ m, m < 401 → cr C' 14 m = x) → post C') : ∀ k i C, i + k = 401 → SameX [] [14] C0 C → (∀ m, m < i → cr C 14 m = x) → w_J7_fill14_5 post (k + 1) C x (nI i) (nI 401) := by
  intro k
  induction k with
  | zero => intro i C hi hs hf; exact ⟨fun _ => hp C hs (fun m hm => hf m (by omega)), fun q => absurd (nI_le (by omega) (by omega)) q⟩
  | succ k ih =>
    intro i C hi hs hf
    refine ⟨fun q => absurd q (nI_ge (by omega) (by omega)), fun _ => ⟨vin_nI (by omega) (by omega), ?_⟩⟩
    rw [nI_1]
    refine ih (i + 1) _ (by omega) (hs.tr (SameX.r (by decide))) (fun m hm => ?_)
    show upd (cr C 14) (nI i).toNatClampNeg x m = x
    rw [tn_nI (by omega)]
    by_cases e : m = i
    · subst e; rw [pk_us]
    · rw [pk_un e]; exact hf m (by omega)
theorem pc_clear {post : CS → Prop} (h : ∀ C', SameX [] [13] C C' → (∀ m, m < 1024 → cr C' 13 m = 0) → post C') : w_X1_clear post C := ⟨1024 + 1, lp_fill13 h 1024 0 C (by omega) SameX.rf (fun m hm => by omega)⟩
theorem lp_count4 {post : CS → Prop} {y : Int32} (hX : ∀ m, m < L → cr C0 5 m = nI (X m) ∧ X m < 1024) (hL : L ≤ 400) (hb : b ≤ L) : ∀ k a C, a + k = b → SameX [] [13] C0 C → (∀ C', SameX [] [13] C0 C' → cr C' 13 = fold (fun i g => upd g (X i) (g (X i) + y)) a k (cr C 13) → post C') → w_X1_count4_3 post (k + 1) C (nI b) y (nI a) := by
  intro k
  induction k with
  | zero => intro a C ha hs h; exact ⟨fun _ => h C hs rfl, fun q => absurd (nI_le (by omega) (by omega)) q⟩
  | succ k ih =>
    intro a C ha hs h
    obtain ⟨g1, g2⟩ := hX a (by omega)
    have e5 : cr C 5 = cr C0 5 := hs.2.1 5 (by decide)
    refine ⟨fun q => absurd q (nI_ge (by omega) (by omega)), fun _ => ⟨vin_nI (by omega) (by omega), ?_, ?_⟩⟩
    · rw [tn_nI (by omega), e5, g1]; exact vin_nI g2 (by omega)
    · rw [nI_1]
      refine ih (a + 1) _ (by omega) (hs.tr (SameX.r (by decide))) (fun C' hs' he => h C' hs' ?_)
      rw [he, fold]
      congr 1
      show upd (cr C 13) (cr C 5 (nI a).toNatClampNeg).toNatClampNeg (cr C 13 (cr C 5 (nI a).toNatClampNeg).toNatClampNeg + y) = _
      rw [tn_nI (by omega), e5, g1, tn_nI (by omega)]
theorem lp_count8 {post : CS → Prop} {y : Int32} (hX : ∀ m, m < L → cr C0 9 m = nI (X m) ∧ X m < 1024) (hL : L ≤ 400) (hb : b ≤ L) : ∀ k a C, a + k = b → SameX [] [13] C0 C → (∀ C', SameX [] [13] C0 C' → cr C' 13 = fold (fun i g => upd g (X i) (g (X i) + y)) a k (cr C 13) → post C') → w_X1_count8_3 post (k + 1) C (nI b) y (nI a) := by
  intro k
  induction k with
  | zero => intro a C ha hs h; exact ⟨fun _ => h C hs rfl, fun q => absurd (nI_le (by omega) (by omega)) q⟩
  | succ k ih =>
    intro a C ha hs h
    obtain ⟨g1, g2⟩ := hX a (by omega)
    have e5 : cr C 9 = cr C0 9 := hs.2.1 9 (by decide)
    refine ⟨fun q => absurd q (nI_ge (by omega) (by omega)), fun _ => ⟨vin_nI (by omega) (by omega), ?_, ?_⟩⟩
    · rw [tn_nI (by omega), e5, g1]; exact vin_nI g2 (by omega)
    · rw [nI_1]
      refine ih (a + 1) _ (by omega) (hs.tr (SameX.r (by decide))) (fun C' hs' he => h C' hs' ?_)
      rw [he, fold]
      congr 1
      show upd (cr C 13) (cr C 9 (nI a).toNatClampNeg).toNatClampNeg (cr C 13 (cr C 9 (nI a).toNatClampNeg).toNatClampNeg + y) = _
      rw [tn_nI (by omega), e5, g1, tn_nI (by omega)]
/-- a span that is counted -/
theorem pc_countSpan (hR : RelC C S) (hf : fS S x1 x2 x3 ≠ 0 → post (ng (fS S x1 x2 x3)) C) (h : ∀ C' i j, fS S x1 x2 x3 = 0 → x2 = nI i → x3 = nI j → i ≤ j → j ≤ 400 → (∀ v, v < 1024 → cr C' 13 v = nI (cnt (sX S (vr S x1)) i (j - i) v)) → RelC C' S → post 0 C') : w_X3_countSpan post C x1 x2 x3 := by
  refine pc_laySpan hR (fun e => ⟨fun _ => hf e, fun q => absurd ((ng_ne _ (fS_le S x1 x2 x3)).mp q) e⟩) (fun C' i j e ei ej hij hjl hL hv hs hz hF hR' => ⟨fun q => absurd rfl q, fun _ => ?_⟩)
  subst ei ej
  refine pc_clear (fun C1 hs1 h0 => ⟨j - i + 1, ?_⟩)
  have hx : ∀ m, m < sL S (vr S x1) → sX S (vr S x1) m < 1024 := fun m hm => hR.inv.2.2.2.2.2.2.1 _ m hv hm
  refine lp_count4 (C0 := C1) (X := sX S (vr S x1)) (L := sL S (vr S x1)) (fun m hm => ⟨?_, hx m hm⟩) hL hjl (j - i) i C1 (by omega) SameX.rf (fun C2 hs2 he => ?_)
  · rw [hs1.2.1 5 (by decide)]; exact (hF m hm).1
  · refine h C2 i j e rfl rfl hij (by omega) (fun v hv2 => ?_) ((hR'.same hs1 (by decide)).same hs2 (by decide))
    rw [he, cadd_val, h0 v hv2]
    have := addN_1 (cnt (sX S (vr S x1)) i (j - i) v) 0
    rw [Nat.zero_add] at this
    exact this
theorem lt1023 {v : Nat} (h : v ≤ 1024) : (1023 : Int32) < nI v ↔ v = 1024 := by
  rw [show (1023 : Int32) = nI 1023 from rfl, nI_ltI (by omega) (by omega)]; omega
theorem lp_more {c : Nat → Nat} {bd : Nat} (hc : ∀ v, v < 1024 → cr C 13 v = nI (c v) ∧ c v ≤ 400) (hbd : bd ≤ 400) (h : post (eN (fstF (fun v => decide (bd < c v)) 1024)) C) : ∀ k v, v + k = 1024 → (∀ u, u < v → decide (bd < c u) = false) → w_X1_valueOfMoreThan_2 post (k + 1) C (nI bd) (nI v) := by
  intro k
  induction k with
  | zero =>
    intro v hv hn
    have e : v = 1024 := by omega
    subst e
    rw [fst_no (fun u hu => hn u hu)] at h
    exact ⟨fun _ => h, fun q => absurd ((lt1023 (by omega)).mpr rfl) q⟩
  | succ k ih =>
    intro v hv hn
    obtain ⟨g1, g2⟩ := hc v (by omega)
    refine ⟨fun q => absurd ((lt1023 (by omega)).mp q) (by omega), fun _ => ⟨vin_nI (by omega) (by omega), fun q => ?_, fun q => ?_⟩⟩
    · rw [tn_nI (by omega), g1, nI_leI (by omega) (by omega)] at q
      rw [nI_1]
      refine ih (v + 1) (by omega) (fun u hu => ?_)
      by_cases e : u = v
      · subst e; simp; omega
      · exact hn u (by omega)
    · rw [tn_nI (by omega), g1, nI_leI (by omega) (by omega)] at q
      rw [fst_eq hn (by simp; omega) (by omega), eN, if_neg (by omega)] at h
      exact h
theorem pc_half (hR : RelC C S) (h : ∀ C', RelC C' (sp_half S x1 x2 x3).2 → post (sp_half S x1 x2 x3).1 C') : w_X3_half post C x1 x2 x3 := by
  unfold sp_half sp_span at h
  refine pc_countSpan hR (fun e => ⟨fun q => absurd ((ng_ne _ (fS_le S x1 x2 x3)).mp q) e, fun _ => ?_⟩) (fun C' i j e ei ej hij hj hc hR' => ⟨fun _ => ?_, fun q => absurd rfl q⟩)
  · rw [if_neg e] at h; exact pc_told hR (fS_le S x1 x2 x3) e h
  · subst ei ej
    rw [if_pos e, sa_nI (by omega), sa_nI (by omega)] at h
    rw [pk_sub hij, show (2 : Int32) = nI 2 from rfl, pk_div (by omega) (by omega) (by omega)]
    have e2 : (fun v => decide (j - i < 2 * cnt (sX S (vr S x1)) i (j - i) v)) = (fun v => decide ((j - i) / 2 < cnt (sX S (vr S x1)) i (j - i) v)) := by
      funext v; congr 1; apply propext; omega
    rw [e2] at h
    have h7 : w_X3_foundOrNone (fun r6 C5 => post r6 C5) C' (eN (fstF (fun v => decide ((j - i) / 2 < cnt (sX S (vr S x1)) i (j - i) v)) 1024)) := pc_enc hR' (fst_le _ _) h
    refine ⟨1024 + 1, lp_more (post := fun r4 C3 => w_X3_foundOrNone (fun r6 C5 => post r6 C5) C3 r4) (c := cnt (sX S (vr S x1)) i (j - i)) (bd := (j - i) / 2) (fun v hv => ⟨hc v hv, ?_⟩) (by omega) h7 1024 0 (by omega) (fun u hu => by omega)⟩
    have := cntF_le (p := fun i => decide (sX S (vr S x1) i = v)) (j - i) i
    unfold cnt; omega
theorem lp_diff {c : Nat → Nat} (hc : ∀ v, v < 1024 → cr C 13 v = nI (c v) ∧ c v ≤ 400) : ∀ k v n, v + k = 1024 → post (nI (fold (fun v n => if decide (c v ≠ 0) = true then n + 1 else n) v k n)) C → w_X1_countDifferent_4 post (k + 1) C (nI n) (nI v) := by
  intro k
  induction k with
  | zero => intro v n hv h; exact ⟨fun _ => h, fun q => absurd ((lt1023 (by omega)).mpr (by omega)) q⟩
  | succ k ih =>
    intro v n hv h
    obtain ⟨g1, g2⟩ := hc v (by omega)
    rw [fold] at h
    refine ⟨fun q => absurd ((lt1023 (by omega)).mp q) (by omega), fun _ => ⟨vin_nI (by omega) (by omega), fun q => ?_, fun q => ?_⟩⟩
    · rw [tn_nI (by omega), g1, show (0 : Int32) = nI 0 from rfl, nI_eq (by omega) (by omega)] at q
      rw [if_neg (by simp [q])] at h
      show w_X1_countDifferent_4 post (k + 1) C _ (nI v + 1)
      rw [nI_1]; exact ih (v + 1) n (by omega) h
    · rw [tn_nI (by omega), g1, show (0 : Int32) = nI 0 from rfl, nI_eq (by omega) (by omega)] at q
      rw [if_pos (by simp [q])] at h
      show w_X1_countDifferent_4 post (k + 1) C (nI n + 1) (nI v + 1)
      rw [nI_1, nI_1]; exact ih (v + 1) (n + 1) (by omega) h
theorem pc_distinct (hR : RelC C S) (h : ∀ C', RelC C' (sp_distinct S x1 x2 x3).2 → post (sp_distinct S x1 x2 x3).1 C') : w_X3_distinct post C x1 x2 x3 := by
  unfold sp_distinct sp_span at h
  refine pc_countSpan hR (fun e => ⟨fun q => absurd ((ng_ne _ (fS_le S x1 x2 x3)).mp q) e, fun _ => ?_⟩) (fun C' i j e ei ej hij hj hc hR' => ⟨fun _ => ?_, fun q => absurd rfl q⟩)
  · rw [if_neg e] at h; exact pc_told hR (fS_le S x1 x2 x3) e h
  · subst ei ej
    rw [if_pos e, sa_nI (by omega), sa_nI (by omega)] at h
    refine ⟨1024 + 1, lp_diff (c := cnt (sX S (vr S x1)) i (j - i)) (fun v hv => ⟨hc v hv, ?_⟩) 1024 0 0 (by omega) (h C' hR')⟩
    have := cntF_le (p := fun i => decide (sX S (vr S x1) i = v)) (j - i) i
    unfold cnt; omega
end CTALLY
/-! ===== often ===== -/
def kvF (p : Nat → Bool) : Nat → Nat → Nat → Nat
  | _, 0, _ => 1024
  | a, k + 1, left => if p a = true then (if left = 0 then a else kvF p (a + 1) k (left - 1)) else kvF p (a + 1) k left
def ofF (c : Nat → Nat) : Nat → Nat → Nat
  | 0, _ => 1024
  | t + 1, left => if left < cnt c 0 1024 (t + 1) then kvF (fun v => decide (c v = t + 1)) 0 1024 left else ofF c t (left - cnt c 0 1024 (t + 1))
def sp_often (S : Sh) (x1 x2 x3 x4 : Int32) : Int32 × Sh := sp_span S x1 x2 x3 (if x4 < 0 then tl S 6 else enc S (ofF (cnt (sX S (vr S x1)) (sa x2) (sa x3 - sa x2)) 400 x4.toNatClampNeg))
theorem kvF_le {p : Nat → Bool} : ∀ k a left, a + k = 1024 → kvF p a k left ≤ 1024 := by
  intro k
  induction k with
  | zero => intro a left _; exact Nat.le_refl _
  | succ k ih =>
    intro a left h
    rw [kvF]
    split
    · split
      · omega
      · exact ih _ _ (by omega)
    · exact ih _ _ (by omega)
theorem ofF_le {c : Nat → Nat} : ∀ t left, ofF c t left ≤ 1024 := by
  intro t
  induction t with
  | zero => intro left; exact Nat.le_refl _
  | succ t ih =>
    intro left
    rw [ofF]
    split
    · exact kvF_le _ _ _ (by omega)
    · exact ih _
section COFTEN
variable {post : Int32 → CS → Prop} {C C0 : CS} {S : Sh} {x1 x2 x3 x4 x5 : Int32} {c : Nat → Nat}
theorem lp_voc {t : Nat} (hc : ∀ v, v < 1024 → cr C 13 v = nI (c v) ∧ c v ≤ 400) (ht : t ≤ 400) : ∀ k v left, v + k = 1024 → left < 2147483648 → post (eN (kvF (fun v => decide (c v = t)) v k left)) C → w_X1_valueOfCount_5 post (k + 1) C (nI t) (nI left) (nI v) := by
  intro k
  induction k with
  | zero => intro v left hv hl h; exact ⟨fun _ => h, fun q => absurd ((lt1023 (by omega)).mpr (by omega)) q⟩
  | succ k ih =>
    intro v left hv hl h
    obtain ⟨g1, g2⟩ := hc v (by omega)
    rw [kvF] at h
    refine ⟨fun q => absurd ((lt1023 (by omega)).mp q) (by omega), fun _ => ⟨vin_nI (by omega) (by omega), fun q => ?_, fun q => ⟨fun q2 => ?_, fun q2 => ?_⟩⟩⟩
    · rw [tn_nI (by omega), g1, nI_eq (by omega) (by omega)] at q
      rw [if_neg (by simp [q])] at h
      show w_X1_valueOfCount_5 post (k + 1) C _ _ (nI v + 1)
      rw [nI_1]; exact ih (v + 1) left (by omega) hl h
    · rw [tn_nI (by omega), g1, nI_eq (by omega) (by omega)] at q
      have hl0 : left ≠ 0 := fun z => q2 (by rw [z]; rfl)
      rw [if_pos (by simp [q]), if_neg hl0] at h
      show w_X1_valueOfCount_5 post (k + 1) C _ (nI left + (-1)) (nI v + 1)
      rw [nI_1, sb_m1 (by omega)]; exact ih (v + 1) (left - 1) (by omega) (by omega) h
    · rw [tn_nI (by omega), g1, nI_eq (by omega) (by omega)] at q
      rw [show (0 : Int32) = nI 0 from rfl, nI_eq (by omega) (by omega)] at q2
      rw [if_pos (by simp [q]), if_pos q2, eN, if_neg (by omega)] at h
      exact h
theorem lp_group {post : CS → Prop} (hc : ∀ v, v < 1024 → cr C0 13 v = nI (c v) ∧ c v ≤ 400) : ∀ k v C, v + k = 1024 → SameX [] [14] C0 C → (∀ C', SameX [] [14] C0 C' → cr C' 14 = fold (fun i g => upd g (c i) (g (c i) + 1)) v k (cr C 14) → post C') → w_X1_groupByCount_10 post (k + 1) C (nI v) := by
  intro k
  induction k with
  | zero => intro v C hv hs h; exact ⟨fun _ => h C hs rfl, fun q => absurd ((lt1023 (by omega)).mpr (by omega)) q⟩
  | succ k ih =>
    intro v C hv hs h
    obtain ⟨g1, g2⟩ := hc v (by omega)
    have e5 : cr C 13 = cr C0 13 := hs.2.1 13 (by decide)
    refine ⟨fun q => absurd ((lt1023 (by omega)).mp q) (by omega), fun _ => ⟨vin_nI (by omega) (by omega), ?_, ?_⟩⟩
    · rw [tn_nI (by omega), e5, g1]; exact vin_nI (by omega) (by omega)
    · rw [nI_1]
      refine ih (v + 1) _ (by omega) (hs.tr (SameX.r (by decide))) (fun C' hs' he => h C' hs' ?_)
      rw [he, fold]
      congr 1
      show upd (cr C 14) (cr C 13 (nI v).toNatClampNeg).toNatClampNeg (cr C 14 (cr C 13 (nI v).toNatClampNeg).toNatClampNeg + 1) = _
      rw [tn_nI (by omega), e5, g1, tn_nI (by omega)]
theorem lp_oft (hc : ∀ v, v < 1024 → cr C 13 v = nI (c v) ∧ c v ≤ 400) (hs : ∀ t, t < 401 → cr C 14 t = nI (cnt c 0 1024 t)) : ∀ t left, t ≤ 400 → left < 2147483648 → post (eN (ofF c t left)) C → w_X1_oftenest_17 post (t + 1) C (nI left) (nI t) := by
  intro t
  induction t with
  | zero => intro left ht hl h; exact ⟨fun _ => h, fun q => absurd (show nI 0 ≤ 0 by decide) q⟩
  | succ t ih =>
    intro left ht hl h
    rw [ofF] at h
    have hcl : cnt c 0 1024 (t + 1) ≤ 1024 := cntF_le _ _
    refine ⟨fun q => absurd q (nI_nle (by omega) (by omega)), fun _ => ⟨vin_nI (by omega) (by omega), fun q => ?_, fun q => ?_⟩⟩
    · rw [tn_nI (by omega), hs (t + 1) (by omega), nI_leI (by omega) (by omega)] at q
      rw [if_neg (by omega)] at h
      rw [tn_nI (by omega), hs (t + 1) (by omega), pk_sub q, pk_m1]
      exact ih _ (by omega) (by omega) h
    · rw [tn_nI (by omega), hs (t + 1) (by omega), nI_leI (by omega) (by omega)] at q
      rw [if_pos (by omega)] at h
      exact ⟨1024 + 1, lp_voc hc ht 1024 0 left (by omega) hl h⟩
theorem pc_often (hR : RelC C S) (h : ∀ C', RelC C' (sp_often S x1 x2 x3 x4).2 → post (sp_often S x1 x2 x3 x4).1 C') : w_X3_often post C x1 x2 x3 x4 := by
  unfold sp_often sp_span at h
  refine pc_countSpan hR (fun e => ⟨fun q => absurd ((ng_ne _ (fS_le S x1 x2 x3)).mp q) e, fun _ => ?_⟩) (fun C' i j e ei ej hij hj hc hR' => ⟨fun _ => ?_, fun q => absurd rfl q⟩)
  · rw [if_neg e] at h; exact pc_told hR (fS_le S x1 x2 x3) e h
  · subst ei ej
    rw [if_pos e, sa_nI (by omega), sa_nI (by omega)] at h
    refine ⟨fun q => ?_, fun q => ?_⟩
    · rw [if_neg (Int32.not_lt.mpr q)] at h
      have h4 := tn_int (Int32.not_lt.mpr q)
      have h5 := fb_rng x4
      have hc2 : ∀ v, v < 1024 → cr C' 13 v = nI (cnt (sX S (vr S x1)) i (j - i) v) ∧ cnt (sX S (vr S x1)) i (j - i) v ≤ 400 := fun v hv => ⟨hc v hv, by
        have := cntF_le (p := fun i => decide (sX S (vr S x1) i = v)) (j - i) i
        unfold cnt; omega⟩
      refine ⟨401 + 1, lp_fill14 (fun C1 hs1 h0 => ⟨1024 + 1, ?_⟩) 401 0 C' (by omega) SameX.rf (fun m hm => by omega)⟩
      have e13 : cr C1 13 = cr C' 13 := hs1.2.1 13 (by decide)
      refine lp_group (C0 := C1) (c := cnt (sX S (vr S x1)) i (j - i)) (fun v hv => by rw [e13]; exact hc2 v hv) 1024 0 C1 (by omega) SameX.rf (fun C2 hs2 he => ⟨400 + 1, ?_⟩)
      have e13b : cr C2 13 = cr C' 13 := (hs2.2.1 13 (by decide)).trans e13
      rw [show x4 = nI x4.toNatClampNeg from (nI_tn (Int32.not_lt.mpr q)).symm]
      refine lp_oft (c := cnt (sX S (vr S x1)) i (j - i)) (fun v hv => by rw [e13b]; exact hc2 v hv) (fun t ht => ?_) 400 _ (by omega) (by omega) (pc_enc ((hR'.same hs1 (by decide)).same hs2 (by decide)) (ofF_le _ _) h)
      rw [he, cadd_val, h0 t ht]
      have := addN_1 (cnt (cnt (sX S (vr S x1)) i (j - i)) 0 1024 t) 0
      rw [Nat.zero_add] at this
      exact this
    · rw [if_pos (Int32.not_le.mp q)] at h
      exact pc_none hR' (fun z => absurd rfl z) (fun _ => h)
end COFTEN
