/-! ===== the reference's new versions ===== -/
def EN (M : MS) (S : Sh) (en : Nat) (fr : Nat → Nat) : Prop := mz M 6 = nI en ∧ en + 400 ≤ 400 * sV S ∧ ∀ v, v < sV S → mr M 1 v = nI (fr v) ∧ fr v + sL S v ≤ en ∧ ∀ i, i < sL S v → mr M 4 (fr v + i) = nI (sX S v i) ∧ mr M 5 (fr v + i) = sW S v i
def GM (M0 : MS) (S : Sh) (en v m : Nat) (x : Nat → Nat) (w : Nat → Int32) (z7 : Int32) (M : MS) : Prop := mz M 0 = nI (sV S + 1) ∧ mz M 7 = z7 ∧ mz M 14 = mz M0 14 ∧ mz M 6 = nI (en + m) ∧ mr M 1 = upd (mr M0 1) (sV S) (nI en) ∧ mr M 3 = upd (mr M0 3) (sV S) (nI v) ∧ (∀ k, k ≠ 1 → k ≠ 3 → k ≠ 4 → k ≠ 5 → mr M k = mr M0 k) ∧ (∀ p, p < en → mr M 4 p = mr M0 4 p ∧ mr M 5 p = mr M0 5 p) ∧ (∀ t, t < m → mr M 4 (en + t) = nI (x t) ∧ mr M 5 (en + t) = w t)
theorem sh_id {a : Nat} (h : a < 1024) : vp_nar .short (Int16.toInt32 (Int32.toInt16 (nI a))) = nI a := by
  rw [pk_vs]
  exact fb_short (by rw [nI_toInt (by omega)]; omega) (by rw [nI_toInt (by omega)]; omega)
theorem RelM.grown {M M' : MS} {S : Sh} (hR : RelM M S) {v l d en : Nat} {fr x : Nat → Nat} {w : Nat → Int32} (hv : v < sV S) (hn : sV S < 500) (hm : sM S + d ≤ 20000) (hl : l ≤ 400) (hx : ∀ i, i < l → x i < 1024) (hE : EN M S en fr) (hG : GM M S en v l x w (nI (sM S + d)) M') : RelM (mru M' 2 (upd (mr M' 2) (sV S) (nI l))) (newS S v l x w d) := by
  obtain ⟨hI, h0, h7, h14, -, hvv, hp, hs, hf⟩ := hR
  obtain ⟨e6, e7, e8⟩ := hE
  obtain ⟨g0, g7, g14, g6, g1, g3, gk, gp, gt⟩ := hG
  have key : ∀ {α : Type} (f : Nat → α) (y : α) (u : Nat), u < sV S → va_up f (sV S) y u = f u := fun f y u hu => va_up_ne f y (by omega)
  show RM (mz M' 0) (mz M' 6) (mz M' 7) (mz M' 14) (mr M' 1) (upd (mr M' 2) (sV S) (nI l)) (mr M' 3) (mr M' 4) (mr M' 5) (mr M' 8) (mr M' 9) (mr M' 10) (mr M' 11) (mr M' 12) (mr M' 13) (mr M' 15) (newS S v l x w d)
  rw [g0, g6, g7, g14, g1, g3, gk 2 (by decide) (by decide) (by decide) (by decide), gk 8 (by decide) (by decide) (by decide) (by decide), gk 9 (by decide) (by decide) (by decide) (by decide), gk 10 (by decide) (by decide) (by decide) (by decide), gk 11 (by decide) (by decide) (by decide) (by decide), gk 12 (by decide) (by decide) (by decide) (by decide), gk 13 (by decide) (by decide) (by decide) (by decide), gk 15 (by decide) (by decide) (by decide) (by decide)]
  refine ⟨hI.new hv hn hm hl hx, rfl, rfl, h14, ⟨en + l, va_up fr (sV S) en, rfl, ?_, fun u hu => ?_⟩, fun u hu => ?_, fun j hj => ?_, hs, hf⟩
  · show en + l + 400 ≤ 400 * (sV S + 1); omega
  · have hu : u < sV S + 1 := hu
    show upd (mr M 1) (sV S) (nI en) u = nI (va_up fr (sV S) en u) ∧ va_up fr (sV S) en u + va_up (sL S) (sV S) l u ≤ en + l ∧ ∀ i, i < va_up (sL S) (sV S) l u → mr M' 4 (va_up fr (sV S) en u + i) = nI (va_up (sX S) (sV S) x u i) ∧ mr M' 5 (va_up fr (sV S) en u + i) = va_up (sW S) (sV S) w u i
    by_cases e : u = sV S
    · subst e; rw [va_up_self, va_up_self, va_up_self, va_up_self, pk_us]; exact ⟨rfl, Nat.le_refl _, gt⟩
    · have hu2 : u < sV S := by omega
      rw [key _ _ _ hu2, key _ _ _ hu2, key _ _ _ hu2, key _ _ _ hu2, pk_un e]
      obtain ⟨c1, c2, c3⟩ := e8 u hu2
      refine ⟨c1, by omega, fun i hi => ?_⟩
      obtain ⟨p1, p2⟩ := gp (fr u + i) (by omega)
      rw [p1, p2]; exact c3 i hi
  · have hu : u < sV S + 1 := hu
    show upd (mr M 2) (sV S) (nI l) u = nI (va_up (sL S) (sV S) l u) ∧ upd (mr M 3) (sV S) (nI v) u = (if u = 0 then -1 else nI (va_up (sP S) (sV S) v u))
    have h1 := hI.1
    by_cases e : u = sV S
    · subst e; rw [va_up_self, va_up_self, pk_us, pk_us, if_neg (by omega)]; exact ⟨rfl, rfl⟩
    · have hu2 : u < sV S := by omega
      rw [key _ _ _ hu2, key _ _ _ hu2, pk_un e, pk_un e]; exact hvv u hu2
  · obtain ⟨p1, p2, p3⟩ := hp j hj
    have hrj := (hI.2.2.2.2.2.2.2.1 j hj).2.1
    refine ⟨p1, p2, fun q => ?_⟩
    have q2 : 2 ≤ sK S j := q
    have hr := hrj (by omega)
    show mr M 10 j = nI (va_up (sL S) (sV S) l (sR S j)) ∧ ∀ i, i < va_up (sL S) (sV S) l (sR S j) → mr M 11 (400 * j + i) = nI (va_up (sX S) (sV S) x (sR S j) i) ∧ mr M 12 (400 * j + i) = va_up (sW S) (sV S) w (sR S j) i
    rw [key _ _ _ hr, key _ _ _ hr, key _ _ _ hr]
    exact p3 q2
section PMH
variable {post : MS → Prop} {M M0 : MS} {S : Sh} {x1 x2 x3 x4 x5 z7 : Int32} {en v m : Nat} {fr x : Nat → Nat} {w : Nat → Int32}
theorem pm_add (hG : GM M0 S en v m x w z7 M) (hen : en + 400 ≤ 199600) (hm : m < 400) (hx : x m < 1024) (h : ∀ M', GM M0 S en v (m + 1) x w z7 M' → post M') : w_X4_add post M (nI (x m)) (w m) := by
  obtain ⟨g0, g7, g14, g6, g1, g3, gk, gp, gt⟩ := hG
  refine ⟨by rw [g6]; exact vin_nI (by omega) (by omega), h _ ⟨g0, g7, g14, ?_, g1, g3, fun k h1 h3 h4 h5 => ?_, fun p hp => ?_, fun t ht => ?_⟩⟩
  · show mz M 6 + 1 = nI (en + (m + 1))
    rw [g6, nI_1]; rfl
  · show va_up (va_up (mr M) 4 _) 5 _ k = mr M0 k
    rw [va_up_ne _ _ h5, va_up_ne _ _ h4]; exact gk k h1 h3 h4 h5
  · show upd (mr M 4) (Int32.toNatClampNeg (mz M 6)) _ p = mr M0 4 p ∧ upd (mr M 5) (Int32.toNatClampNeg (mz M 6)) _ p = mr M0 5 p
    rw [g6, tn_nI (by omega), pk_un (by omega), pk_un (by omega)]; exact gp p hp
  · show upd (mr M 4) (Int32.toNatClampNeg (mz M 6)) _ (en + t) = nI (x t) ∧ upd (mr M 5) (Int32.toNatClampNeg (mz M 6)) _ (en + t) = w t
    rw [g6, tn_nI (by omega)]
    by_cases e : t = m
    · subst e; rw [pk_us, pk_us, sh_id hx]; exact ⟨rfl, rfl⟩
    · rw [pk_un (by omega), pk_un (by omega)]; exact gt t (by omega)
theorem lm_begin {post : Int32 → MS → Prop} {n : Nat} (hE : EN M0 S en fr) (hI : InvS S) (hv : v < sV S) (hn : sV S < 500) (hnl : n ≤ sL S v) (hx : ∀ t, t < n → x t = sX S v t ∧ w t = sW S v t) (h : ∀ M', GM M0 S en v n x w z7 M' → post (nI (sV S)) M') : ∀ k i M, i + k = n → GM M0 S en v i x w z7 M → w_X4_begin_35 post (k + 1) M (nI v) (nI n) (nI (sV S)) (nI i) := by
  have hL := hI.2.2.2.2.1 v hv
  obtain ⟨e6, e7, e8⟩ := hE
  obtain ⟨c1, c2, c3⟩ := e8 v hv
  intro k
  induction k with
  | zero =>
    intro i M hi hG
    have e : i = n := by omega
    subst e
    exact ⟨fun _ => h M hG, fun q => absurd (nI_le (by omega) (by omega)) q⟩
  | succ k ih =>
    intro i M hi hG
    obtain ⟨g0, g7, g14, g6, g1, g3, gk, gp, gt⟩ := id hG
    have r1 : mr M 1 v = nI (fr v) := by rw [g1, pk_un (by omega)]; exact c1
    obtain ⟨p1, p2⟩ := gp (fr v + i) (by omega)
    obtain ⟨d1, d2⟩ := c3 i (by omega)
    obtain ⟨x1e, w1e⟩ := hx i (by omega)
    have hxlt := hI.2.2.2.2.2.2.1 v i hv (by omega)
    refine ⟨fun q => absurd q (nI_ge (by omega) (by omega)), fun _ => ⟨vin_nI (by omega) (by omega), ?_, ?_⟩⟩
    · rw [tn_nI (by omega), r1, nI_add]; exact vin_nI (by omega) (by omega)
    · rw [tn_nI (n := v) (by omega), r1, nI_add, tn_nI (by omega), p1, p2, d1, d2, ← x1e, ← w1e]
      refine pm_add hG (by omega) (by omega) (by omega) (fun M' hG' => ?_)
      rw [nI_1]
      exact ih (i + 1) M' (by omega) hG'
theorem pm_begin {post : Int32 → MS → Prop} {n : Nat} (hR : RelM M S) (hE : EN M S en fr) (hv : v < sV S) (hn : sV S < 500) (hnl : n ≤ sL S v) (hx : ∀ t, t < n → x t = sX S v t ∧ w t = sW S v t) (h : ∀ M', GM M S en v n x w (nI (sM S)) M' → post (nI (sV S)) M') : w_X4_begin post M (nI v) (nI n) := by
  have h0 : mz M 0 = nI (sV S) := hR.2.1
  have h7 : mz M 7 = nI (sM S) := hR.2.2.1
  unfold w_X4_begin
  rw [h0, tn_nI (by omega), hE.1, nI_1]
  refine ⟨vin_nI (by omega) (by omega), n + 1, ?_⟩
  refine lm_begin hE hR.inv hv hn hnl hx h n 0 _ (by omega) ⟨rfl, h7, rfl, hE.1, rfl, rfl, fun k k1 k3 k4 k5 => ?_, fun p hp => ⟨rfl, rfl⟩, fun t ht => by omega⟩
  show va_up (va_up (mr M) 3 _) 1 _ k = mr M k
  rw [va_up_ne _ _ k1, va_up_ne _ _ k3]
theorem pm_finish {post : Int32 → MS → Prop} {l d : Nat} (hR : RelM M0 S) (hE : EN M0 S en fr) (hv : v < sV S) (hn : sV S < 500) (hm : sM S + d ≤ 20000) (hl : l ≤ 400) (hx : ∀ i, i < l → x i < 1024) (hG : GM M0 S en v l x w (nI (sM S + d)) M) (hi : vp_in x2 12) (h : ∀ M', RelM M' (putS (newS S v l x w d) x2.toNatClampNeg 1 (sV S)) → post (nI (sV S)) M') : w_X4_finish post M (nI (sV S)) x2 := by
  have hg := hR.grown hv hn hm hl hx hE hG
  have hp := hg.putV (j := x2.toNatClampNeg) (v := sV S) (by show sV S < sV S + 1; omega)
  have he : mz M 6 - mr M 1 (sV S) = nI l := by
    rw [hG.2.2.2.1, hG.2.2.2.2.1, pk_us, pk_sub (by omega)]; congr 1; omega
  refine ⟨vin_nI (by omega) (by omega), hi, ?_⟩
  rw [tn_nI (by omega), he]
  exact h _ hp
/-- reading a place's row while a version grows -/
theorem pm_valG {post : Int32 → MS → Prop} (hR : RelM M0 S) (hE : EN M0 S en fr) (hG : GM M0 S en v m x w z7 M) (h0 : fL S x1 = 0) {t : Nat} (ht : t < sL S (vr S x1)) (h : post (nI (sX S (vr S x1) t)) M) : w_X4_valueAt post M x1 (nI t) := by
  obtain ⟨hi, a1, a2, a3, a4, a5⟩ := hR.at h0
  obtain ⟨-, k1, -⟩ := ki _ a4
  obtain ⟨hj, hn0⟩ := vin_tn hi
  obtain ⟨b1, b2, b3⟩ := hR.2.2.2.2.2.2.1 _ hj
  have hI := hR.inv
  obtain ⟨e1, e2, e3⟩ := hE
  obtain ⟨g0, g7, g14, g6, g1, g3, gk, gp, gt⟩ := hG
  have hn := hI.2.1
  refine ⟨hi, fun q => ?_, fun q => ?_⟩
  · rw [gk 8 (by decide) (by decide) (by decide) (by decide), a1, k1] at q
    have ex : (400 : Int32) * x1 + nI t = nI (400 * x1.toNatClampNeg + t) := by
      rw [show (400 : Int32) = nI 400 from rfl]
      conv => lhs; rw [← nI_tn hn0]
      rw [pk_mul, nI_add]
    rw [ex, tn_nI (by omega), gk 11 (by decide) (by decide) (by decide) (by decide), ((b3 (by omega)).2 t ht).1]
    exact ⟨vin_nI (by omega) (by omega), h⟩
  · rw [gk 8 (by decide) (by decide) (by decide) (by decide), a1, k1] at q
    obtain ⟨c1, c2, c3⟩ := e3 _ a2
    rw [gk 9 (by decide) (by decide) (by decide) (by decide), b2 q, tn_nI (by show vr S x1 < _; omega)]
    have c1 : mr M 1 (sR S x1.toNatClampNeg) = nI (fr (vr S x1)) := by rw [g1, pk_un (by show vr S x1 ≠ _; omega)]; exact c1
    have hb : fr (vr S x1) + t < 200000 := by omega
    rw [c1, nI_add, tn_nI (by omega), (gp _ (by omega)).1, (c3 t ht).1]
    exact ⟨vin_nI (by show vr S x1 < _; omega) (by omega), vin_nI hb (by omega), h⟩
theorem pm_wtG {post : Int32 → MS → Prop} (hR : RelM M0 S) (hE : EN M0 S en fr) (hG : GM M0 S en v m x w z7 M) (h0 : fL S x1 = 0) {t : Nat} (ht : t < sL S (vr S x1)) (h : post (sW S (vr S x1) t) M) : w_X4_weightAt post M x1 (nI t) := by
  obtain ⟨hi, a1, a2, a3, a4, a5⟩ := hR.at h0
  obtain ⟨-, k1, -⟩ := ki _ a4
  obtain ⟨hj, hn0⟩ := vin_tn hi
  obtain ⟨b1, b2, b3⟩ := hR.2.2.2.2.2.2.1 _ hj
  have hI := hR.inv
  obtain ⟨e1, e2, e3⟩ := hE
  obtain ⟨g0, g7, g14, g6, g1, g3, gk, gp, gt⟩ := hG
  have hn := hI.2.1
  refine ⟨hi, fun q => ?_, fun q => ?_⟩
  · rw [gk 8 (by decide) (by decide) (by decide) (by decide), a1, k1] at q
    have ex : (400 : Int32) * x1 + nI t = nI (400 * x1.toNatClampNeg + t) := by
      rw [show (400 : Int32) = nI 400 from rfl]
      conv => lhs; rw [← nI_tn hn0]
      rw [pk_mul, nI_add]
    rw [ex, tn_nI (by omega), gk 12 (by decide) (by decide) (by decide) (by decide), ((b3 (by omega)).2 t ht).2]
    exact ⟨vin_nI (by omega) (by omega), h⟩
  · rw [gk 8 (by decide) (by decide) (by decide) (by decide), a1, k1] at q
    obtain ⟨c1, c2, c3⟩ := e3 _ a2
    rw [gk 9 (by decide) (by decide) (by decide) (by decide), b2 q, tn_nI (by show vr S x1 < _; omega)]
    have c1 : mr M 1 (sR S x1.toNatClampNeg) = nI (fr (vr S x1)) := by rw [g1, pk_un (by show vr S x1 ≠ _; omega)]; exact c1
    have hb : fr (vr S x1) + t < 200000 := by omega
    rw [c1, nI_add, tn_nI (by omega), (gp _ (by omega)).2, (c3 t ht).2]
    exact ⟨vin_nI (by show vr S x1 < _; omega) (by omega), vin_nI hb (by omega), h⟩
theorem GM.made {d : Nat} (hG : GM M0 S en v m x w (nI (sM S)) M) : GM M0 S en v m x w (nI (sM S + d)) (mzu M 7 (mz M 7 + nI d)) := by
  obtain ⟨g0, g7, g14, g6, g1, g3, gk, gp, gt⟩ := hG
  refine ⟨g0, ?_, g14, g6, g1, g3, gk, gp, gt⟩
  show mz M 7 + nI d = nI (sM S + d)
  rw [g7, nI_add]
/-- a place that must be grown -/
theorem pm_lookG {P : Int32 → MS → Prop} {Q : MS → Prop} (hR : RelM M S) (hP : fG S x1 ≠ 0 → P (ng (fL S x1)) M) (hQ : fG S x1 = 0 → Q M) : w_X4_look (fun r2 C1 => ((r2 < 0 → P r2 C1) ∧ (¬ r2 < 0 → (vp_in x1 12 ∧ ((mr C1 8 (Int32.toNatClampNeg x1) = (1 : Int32) → Q C1) ∧ (¬ mr C1 8 (Int32.toNatClampNeg x1) = (1 : Int32) → P r2 C1)))))) M x1 := by
  refine pm_look hR ?_
  show (ng (fL S x1) < 0 → _) ∧ (¬ ng (fL S x1) < 0 → _)
  rw [(ng_lt _ (fL_le S x1)).1]
  unfold fG at hP hQ
  refine ⟨fun e => hP (by rw [if_neg e]; exact e), fun e => ?_⟩
  have e := Classical.not_not.mp e
  obtain ⟨hi, a1, a2, a3, a4, a5⟩ := hR.at e
  obtain ⟨-, k1, -⟩ := ki _ a4
  rw [if_pos e] at hP hQ
  refine ⟨hi, fun q => ?_, fun q => ?_⟩
  · rw [a1, k1] at q
    exact hQ (by rw [if_pos q])
  · rw [a1, k1] at q
    exact hP (by rw [if_neg q]; decide)
theorem pm_notG {post : Int32 → MS → Prop} (hR : RelM M S) (e : fG S x1 ≠ 0) (h : ∀ M', RelM M' (tl S (fG S x1)).2 → post (tl S (fG S x1)).1 M') : ((0 ≤ ng (fL S x1) → w_X4_answer post M (ng 3)) ∧ (¬ 0 ≤ ng (fL S x1) → w_X4_answer post M (ng (fL S x1)))) := by
  refine pm_two hR (fL_le S x1) (by decide) (by decide) ?_
  have : fG S x1 = if fL S x1 = 0 then 3 else fL S x1 := by
    unfold fG at e ⊢
    by_cases q : fL S x1 = 0
    · rw [if_pos q] at e ⊢
      rw [if_pos q]
      by_cases q2 : sK S x1.toNatClampNeg = 1
      · rw [if_pos q2] at e; exact absurd rfl e
      · rw [if_neg q2]
    · rw [if_neg q, if_neg q]
  rw [this] at h
  exact h
theorem RelM.ends (hR : RelM M S) : ∃ en fr, EN M S en fr := by
  obtain ⟨en, fr, h⟩ := hR.2.2.2.2.1
  exact ⟨en, fr, h⟩
theorem RelM.ver (hR : RelM M S) (h : fG S x1 = 0) : mr M 9 x1.toNatClampNeg = nI (vr S x1) := by
  obtain ⟨f0, f1⟩ := fG_0 h
  exact (hR.2.2.2.2.2.2.1 _ (fL_0 f0).2.1).2.1 f1
theorem lt1024 {x : Int32} : (1024 : Int32) ≤ x ↔ (1023 : Int32) < x := by
  rw [fa_le, fa_lt, show (1024 : Int32).toInt = 1024 from rfl, show (1023 : Int32).toInt = 1023 from rfl]; omega
theorem pm_room (hR : RelM M S) {d : Nat} (hd : d ≤ 400) : (mz M 0 = (500 : Int32) ↔ 500 ≤ sV S) ∧ (mz M 7 + nI d ≤ (20000 : Int32) ↔ ¬ 20000 < sM S + d) := by
  have hI := hR.inv
  have h2 := hI.2.1
  have h3 := hI.2.2.1
  have h0 : mz M 0 = nI (sV S) := hR.2.1
  have h7 : mz M 7 = nI (sM S) := hR.2.2.1
  rw [h0, h7, nI_add, show (500 : Int32) = nI 500 from rfl, nI_eq (by omega) (by omega), show (20000 : Int32) = nI 20000 from rfl, nI_leI (by omega) (by omega)]
  omega
end PMH
