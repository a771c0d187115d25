theorem SameX.cn {zs rs : List Nat} {C C' : CS} (h : SameX zs rs C C') : cn C' = cn C := congrArg (fun t => t.2.1) h.2.2
theorem SameX.cf {zs rs : List Nat} {C C' : CS} (h : SameX zs rs C C') : cf C' = cf C := congrArg (fun t => t.2.2.1) h.2.2
theorem SameX.cp {zs rs : List Nat} {C C' : CS} (h : SameX zs rs C C') : cp C' = cp C := congrArg (fun t => t.2.2.2.1) h.2.2
theorem SameX.ck {zs rs : List Nat} {C C' : CS} (h : SameX zs rs C C') : ck C' = ck C := congrArg (fun t => t.2.2.2.2.1) h.2.2
theorem SameX.cv {zs rs : List Nat} {C C' : CS} (h : SameX zs rs C C') : cv C' = cv C := congrArg (fun t => t.2.2.2.2.2.1) h.2.2
theorem SameX.cw {zs rs : List Nat} {C C' : CS} (h : SameX zs rs C C') : cw C' = cw C := congrArg (fun t => t.2.2.2.2.2.2) h.2.2
theorem SameX.co {zs rs : List Nat} {C C' : CS} (h : SameX zs rs C C') : co C' = co C := congrArg (fun t => t.1) h.2.2
theorem RelC.own {C : CS} {S : Sh} (hR : RelC C S) {v : Nat} (hv : v < sV S) : ∃ ke, cf C v 2 = nI ke ∧ ck C v = sL S v - ke ∧ ke ≤ sL S v ∧ (∀ j, j < ck C v → cv C v j = nI (sX S v (ke + j)) ∧ cw C v j = sW S v (ke + j)) ∧ (v ≠ 0 → ke ≤ sL S (sP S v) ∧ ∀ i, i < ke → sX S v i = sX S (sP S v) i ∧ sW S v i = sW S (sP S v) i) ∧ (v = 0 → ke = 0) := by
  obtain ⟨hI, hn, hz0, hz1, hz2, hsh, hhi, ho1, ho2, hst, hfo, ke, hV⟩ := hR
  obtain ⟨a0, a1, a2, a3, a6, a7, a8, b1, b2, b3, b4, b5⟩ := hV v (by rw [hn]; exact hv)
  exact ⟨ke v, a2, b2, b1, b3, b4, b5⟩

theorem lay4_in {post : CS → Prop} {K12 : CS → Int32 → Option Nat → Prop} {C0 : CS} {S : Sh} {u t v0 L ke : Nat} (hn : u < cn C0) (h2 : cf C0 u 2 = nI ke) (hk : ck C0 u = sL S u - ke) (htL : t ≤ sL S u) (hL : sL S u ≤ 400) (hke : ke ≤ 400) (hown : ∀ j, j < ck C0 u → cv C0 u j = nI (sX S u (ke + j)) ∧ cw C0 u j = sW S u (ke + j)) (hX : ∀ i, i < t → sX S u i = sX S v0 i ∧ sW S u i = sW S v0 i)
    (hK : ∀ C, SameX [] [5, 6] C0 C → (∀ m, min t ke ≤ m → m < L → cr C 5 m = nI (sX S v0 m) ∧ cr C 6 m = sW S v0 m) → K12 C (nI (min t ke)) (cp C0 u)) :
    ∀ k i C, ke ≤ i → i ≤ 800 → (i + k = t ∨ (t ≤ i ∧ k = 0)) → SameX [] [5, 6] C0 C → (∀ m, (ke ≤ m ∧ m < i ∧ m < t) ∨ (t ≤ m ∧ m < L) → cr C 5 m = nI (sX S v0 m) ∧ cr C 6 m = sW S v0 m) → w_X0_layOut4_26 post K12 (k + 1) C (nI t) (some u) (nI i) := by
  intro k
  induction k with
  | zero =>
    intro i C hi hi8 hit hs hf
    have ht : t ≤ i := by omega
    refine ⟨fun _ => ⟨u, rfl, by rw [hs.cn]; exact hn, fun w hw => ?_⟩, fun h => absurd (nI_le ht (by omega)) h⟩
    have e1 : (if cf C u 2 < nI t then cf C u 2 else nI t) = nI (min t ke) := by
      rw [hs.cf, h2]
      by_cases h : ke < t
      · rw [if_pos (nI_lt h (by omega)), Nat.min_eq_right (Nat.le_of_lt h)]
      · rw [if_neg (nI_nlt (by omega) (by omega)), Nat.min_eq_left (by omega)]
    rw [e1, hw, hs.cp]
    exact hK C hs (fun m h1 h3 => hf m (by omega))
  | succ k ih =>
    intro i C hi hi8 hit hs hf
    have ht : i < t := by omega
    have e0 : nI i - nI ke = nI (i - ke) := pk_sub hi
    refine ⟨fun h => absurd h (nI_ge ht (by omega)), fun _ => ⟨u, rfl, by rw [hs.cn]; exact hn, ?_, vin_nI (by omega) (by omega), ?_⟩⟩
    · rw [hs.cf, h2, hs.ck, e0]
      exact vin_nI (by omega) (by omega)
    · rw [nI_1]
      refine ih (i + 1) _ (by omega) (by omega) (by omega) (hs.tr ((SameX.r (by decide)).tr (SameX.r (by decide)))) (fun m hm => ?_)
      show upd (cr C 5) (nI i).toNatClampNeg (cv C u (nI i - cf C u 2).toNatClampNeg) m = _ ∧ upd (cr C 6) (nI i).toNatClampNeg (cw C u (nI i - cf C u 2).toNatClampNeg) m = _
      rw [hs.cf, h2, e0, tn_nI (by omega), tn_nI (by omega), hs.cv, hs.cw]
      obtain ⟨g1, g2⟩ := hown (i - ke) (by omega)
      rw [g1, g2, show ke + (i - ke) = i by omega]
      by_cases e : m = i
      · subst e; rw [pk_us, pk_us]
        obtain ⟨g3, g4⟩ := hX m ht
        rw [g3, g4]; exact ⟨rfl, rfl⟩
      · rw [pk_un e, pk_un e]
        exact hf m (by omega)
theorem lay4_out {post : CS → Prop} {C0 : CS} {S : Sh} (hR : RelC C0 S) {v0 L : Nat} (hL : L ≤ 400) (hp : ∀ C', SameX [] [5, 6] C0 C' → (∀ m, m < L → cr C' 5 m = nI (sX S v0 m) ∧ cr C' 6 m = sW S v0 m) → post C') :
    ∀ n u t C, u < n → u < sV S → t ≤ sL S u → t ≤ L → (∀ i, i < t → sX S u i = sX S v0 i ∧ sW S u i = sW S v0 i) → SameX [] [5, 6] C0 C → (∀ m, t ≤ m → m < L → cr C 5 m = nI (sX S v0 m) ∧ cr C 6 m = sW S v0 m) → w_X0_layOut4_12 post (n + 1) C (nI t) (some u) := by
  intro n
  induction n with
  | zero => intro u t C h; omega
  | succ n ih =>
    intro u t C hu hus ht htL hX hs hf
    obtain ⟨ke, h2, hk, hkL, hown, hpar, hz⟩ := hR.own hus
    have hI := hR.inv
    have hlu := hI.2.2.2.2.1 u hus
    refine ⟨fun h => (by cases h), fun _ => ⟨fun h0 => hp C hs (fun m hm => hf m ?_ hm), fun h0 => ⟨u, rfl, by rw [hs.cn, hR.n]; exact hus, ?_⟩⟩⟩
    · rcases Nat.eq_zero_or_pos t with h | h
      · omega
      · exact absurd h0 (nI_nle h (by omega))
    · rw [hs.cf, h2]
      have key : ∀ k i, ke ≤ i → i ≤ 800 → (i + k = t ∨ (t ≤ i ∧ k = 0)) → (∀ m, (ke ≤ m ∧ m < i ∧ m < t) ∨ (t ≤ m ∧ m < L) → cr C 5 m = nI (sX S v0 m) ∧ cr C 6 m = sW S v0 m) → w_X0_layOut4_26 post (w_X0_layOut4_12 post (n + 1)) (k + 1) C (nI t) (some u) (nI i) := by
        intro k i g1 g2 g3 g4
        refine lay4_in (C0 := C0) (S := S) (v0 := v0) (L := L) (by rw [hR.n]; exact hus) h2 hk ht hlu (by omega) hown hX ?_ k i C g1 g2 g3 hs g4
        intro C1 hs1 hf1
        rw [(hR.ver hus).2.1]
        by_cases e : u = 0
        · rw [if_pos e]
          have hk0 := hz e
          subst hk0
          rw [Nat.min_zero] at hf1 ⊢
          exact ⟨fun _ => hp C1 hs1 (fun m hm => hf1 m (Nat.zero_le m) hm), fun h => absurd rfl h⟩
        · rw [if_neg e]
          obtain ⟨p1, p2⟩ := hpar e
          have p3 := hI.2.2.2.2.2.1 u hus e
          refine ih (sP S u) (min t ke) C1 (by omega) (by omega) (by omega) (by omega) (fun i hi => ?_) hs1 hf1
          obtain ⟨q1, q2⟩ := p2 i (by omega)
          obtain ⟨q3, q4⟩ := hX i (by omega)
          exact ⟨by rw [← q1]; exact q3, by rw [← q2]; exact q4⟩
      by_cases h : ke ≤ t
      · exact ⟨_, key (t - ke) ke (Nat.le_refl _) (by omega) (by omega) (fun m hm => hf m (by omega) (by omega))⟩
      · exact ⟨_, key 0 ke (Nat.le_refl _) (by omega) (by omega) (fun m hm => hf m (by omega) (by omega))⟩
theorem pc_lay4 {post : CS → Prop} {C : CS} {S : Sh} (hR : RelC C S) {v : Nat} (hv : v < sV S) (h : ∀ C', SameX [3] [5, 6] C C' → cz C' 3 = nI (sL S v) → (∀ m, m < sL S v → cr C' 5 m = nI (sX S v m) ∧ cr C' 6 m = sW S v m) → RelC C' S → post C') : w_X0_layOut4 post C v := by
  have hL := (hR.ver hv).2.2.2.2.2.2
  have hs0 : SameX [3] [5, 6] C (czu C 3 (cf C v 3)) := SameX.z (by decide)
  have hR0 : RelC (czu C 3 (cf C v 3)) S := hR.same hs0 (by decide)
  refine ⟨by rw [hR.n]; exact hv, v + 1 + 1, ?_⟩
  rw [(hR.ver hv).2.2.1] at hR0 hs0 ⊢
  refine lay4_out hR0 hL (fun C' hs hf => ?_) (v + 1) v (sL S v) _ (by omega) hv (Nat.le_refl _) (Nat.le_refl _) (fun _ _ => ⟨rfl, rfl⟩) SameX.rf (fun m h1 h2 => by omega)
  refine h C' (hs0.tr (hs.mono (by simp) (fun _ q => q))) ?_ hf (hR0.same hs (by decide))
  rw [hs.1 3 (by simp)]
  rfl

theorem lay8_in {post : CS → Prop} {K12 : CS → Int32 → Option Nat → Prop} {C0 : CS} {S : Sh} {u t v0 L ke : Nat} (hn : u < cn C0) (h2 : cf C0 u 2 = nI ke) (hk : ck C0 u = sL S u - ke) (htL : t ≤ sL S u) (hL : sL S u ≤ 400) (hke : ke ≤ 400) (hown : ∀ j, j < ck C0 u → cv C0 u j = nI (sX S u (ke + j)) ∧ cw C0 u j = sW S u (ke + j)) (hX : ∀ i, i < t → sX S u i = sX S v0 i ∧ sW S u i = sW S v0 i)
    (hK : ∀ C, SameX [] [9, 10] C0 C → (∀ m, min t ke ≤ m → m < L → cr C 9 m = nI (sX S v0 m) ∧ cr C 10 m = sW S v0 m) → K12 C (nI (min t ke)) (cp C0 u)) :
    ∀ k i C, ke ≤ i → i ≤ 800 → (i + k = t ∨ (t ≤ i ∧ k = 0)) → SameX [] [9, 10] C0 C → (∀ m, (ke ≤ m ∧ m < i ∧ m < t) ∨ (t ≤ m ∧ m < L) → cr C 9 m = nI (sX S v0 m) ∧ cr C 10 m = sW S v0 m) → w_X0_layOut8_26 post K12 (k + 1) C (nI t) (some u) (nI i) := by
  intro k
  induction k with
  | zero =>
    intro i C hi hi8 hit hs hf
    have ht : t ≤ i := by omega
    refine ⟨fun _ => ⟨u, rfl, by rw [hs.cn]; exact hn, fun w hw => ?_⟩, fun h => absurd (nI_le ht (by omega)) h⟩
    have e1 : (if cf C u 2 < nI t then cf C u 2 else nI t) = nI (min t ke) := by
      rw [hs.cf, h2]
      by_cases h : ke < t
      · rw [if_pos (nI_lt h (by omega)), Nat.min_eq_right (Nat.le_of_lt h)]
      · rw [if_neg (nI_nlt (by omega) (by omega)), Nat.min_eq_left (by omega)]
    rw [e1, hw, hs.cp]
    exact hK C hs (fun m h1 h3 => hf m (by omega))
  | succ k ih =>
    intro i C hi hi8 hit hs hf
    have ht : i < t := by omega
    have e0 : nI i - nI ke = nI (i - ke) := pk_sub hi
    refine ⟨fun h => absurd h (nI_ge ht (by omega)), fun _ => ⟨u, rfl, by rw [hs.cn]; exact hn, ?_, vin_nI (by omega) (by omega), ?_⟩⟩
    · rw [hs.cf, h2, hs.ck, e0]
      exact vin_nI (by omega) (by omega)
    · rw [nI_1]
      refine ih (i + 1) _ (by omega) (by omega) (by omega) (hs.tr ((SameX.r (by decide)).tr (SameX.r (by decide)))) (fun m hm => ?_)
      show upd (cr C 9) (nI i).toNatClampNeg (cv C u (nI i - cf C u 2).toNatClampNeg) m = _ ∧ upd (cr C 10) (nI i).toNatClampNeg (cw C u (nI i - cf C u 2).toNatClampNeg) m = _
      rw [hs.cf, h2, e0, tn_nI (by omega), tn_nI (by omega), hs.cv, hs.cw]
      obtain ⟨g1, g2⟩ := hown (i - ke) (by omega)
      rw [g1, g2, show ke + (i - ke) = i by omega]
      by_cases e : m = i
      · subst e; rw [pk_us, pk_us]
        obtain ⟨g3, g4⟩ := hX m ht
        rw [g3, g4]; exact ⟨rfl, rfl⟩
      · rw [pk_un e, pk_un e]
        exact hf m (by omega)
theorem lay8_out {post : CS → Prop} {C0 : CS} {S : Sh} (hR : RelC C0 S) {v0 L : Nat} (hL : L ≤ 400) (hp : ∀ C', SameX [] [9, 10] C0 C' → (∀ m, m < L → cr C' 9 m = nI (sX S v0 m) ∧ cr C' 10 m = sW S v0 m) → post C') :
    ∀ n u t C, u < n → u < sV S → t ≤ sL S u → t ≤ L → (∀ i, i < t → sX S u i = sX S v0 i ∧ sW S u i = sW S v0 i) → SameX [] [9, 10] C0 C → (∀ m, t ≤ m → m < L → cr C 9 m = nI (sX S v0 m) ∧ cr C 10 m = sW S v0 m) → w_X0_layOut8_12 post (n + 1) C (nI t) (some u) := by
  intro n
  induction n with
  | zero => intro u t C h; omega
  | succ n ih =>
    intro u t C hu hus ht htL hX hs hf
    obtain ⟨ke, h2, hk, hkL, hown, hpar, hz⟩ := hR.own hus
    have hI := hR.inv
    have hlu := hI.2.2.2.2.1 u hus
    refine ⟨fun h => (by cases h), fun _ => ⟨fun h0 => hp C hs (fun m hm => hf m ?_ hm), fun h0 => ⟨u, rfl, by rw [hs.cn, hR.n]; exact hus, ?_⟩⟩⟩
    · rcases Nat.eq_zero_or_pos t with h | h
      · omega
      · exact absurd h0 (nI_nle h (by omega))
    · rw [hs.cf, h2]
      have key : ∀ k i, ke ≤ i → i ≤ 800 → (i + k = t ∨ (t ≤ i ∧ k = 0)) → (∀ m, (ke ≤ m ∧ m < i ∧ m < t) ∨ (t ≤ m ∧ m < L) → cr C 9 m = nI (sX S v0 m) ∧ cr C 10 m = sW S v0 m) → w_X0_layOut8_26 post (w_X0_layOut8_12 post (n + 1)) (k + 1) C (nI t) (some u) (nI i) := by
        intro k i g1 g2 g3 g4
        refine lay8_in (C0 := C0) (S := S) (v0 := v0) (L := L) (by rw [hR.n]; exact hus) h2 hk ht hlu (by omega) hown hX ?_ k i C g1 g2 g3 hs g4
        intro C1 hs1 hf1
        rw [(hR.ver hus).2.1]
        by_cases e : u = 0
        · rw [if_pos e]
          have hk0 := hz e
          subst hk0
          rw [Nat.min_zero] at hf1 ⊢
          exact ⟨fun _ => hp C1 hs1 (fun m hm => hf1 m (Nat.zero_le m) hm), fun h => absurd rfl h⟩
        · rw [if_neg e]
          obtain ⟨p1, p2⟩ := hpar e
          have p3 := hI.2.2.2.2.2.1 u hus e
          refine ih (sP S u) (min t ke) C1 (by omega) (by omega) (by omega) (by omega) (fun i hi => ?_) hs1 hf1
          obtain ⟨q1, q2⟩ := p2 i (by omega)
          obtain ⟨q3, q4⟩ := hX i (by omega)
          exact ⟨by rw [← q1]; exact q3, by rw [← q2]; exact q4⟩
      by_cases h : ke ≤ t
      · exact ⟨_, key (t - ke) ke (Nat.le_refl _) (by omega) (by omega) (fun m hm => hf m (by omega) (by omega))⟩
      · exact ⟨_, key 0 ke (Nat.le_refl _) (by omega) (by omega) (fun m hm => hf m (by omega) (by omega))⟩
theorem pc_lay8 {post : CS → Prop} {C : CS} {S : Sh} (hR : RelC C S) {v : Nat} (hv : v < sV S) (h : ∀ C', SameX [4] [9, 10] C C' → cz C' 4 = nI (sL S v) → (∀ m, m < sL S v → cr C' 9 m = nI (sX S v m) ∧ cr C' 10 m = sW S v m) → RelC C' S → post C') : w_X0_layOut8 post C v := by
  have hL := (hR.ver hv).2.2.2.2.2.2
  have hs0 : SameX [4] [9, 10] C (czu C 4 (cf C v 3)) := SameX.z (by decide)
  have hR0 : RelC (czu C 4 (cf C v 3)) S := hR.same hs0 (by decide)
  refine ⟨by rw [hR.n]; exact hv, v + 1 + 1, ?_⟩
  rw [(hR.ver hv).2.2.1] at hR0 hs0 ⊢
  refine lay8_out hR0 hL (fun C' hs hf => ?_) (v + 1) v (sL S v) _ (by omega) hv (Nat.le_refl _) (Nat.le_refl _) (fun _ _ => ⟨rfl, rfl⟩) SameX.rf (fun m h1 h2 => by omega)
  refine h C' (hs0.tr (hs.mono (by simp) (fun _ q => q))) ?_ hf (hR0.same hs (by decide))
  rw [hs.1 4 (by simp)]
  rfl
