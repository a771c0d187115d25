/-! ===== new versions ===== -/
def full (S : Sh) (d : Nat) : Bool := decide (500 ≤ sV S) || decide (20000 < sM S + d)
def upX (f : Nat → Nat) (i x : Nat) : Nat → Nat := fun j => if j = i then x else f j
def behind {α : Type} (f g : Nat → α) (n a : Nat) : Nat → α := fun i => if i < n then f i else g (a + (i - n))
def sp_push (S : Sh) (x1 x2 x3 x4 : Int32) : Int32 × Sh := if fG S x1 = 0 then (if noX x2 = true then tl S 1 else if noP x4 = true then tl S 1 else if (decide (400 ≤ sL S (vr S x1)) || full S 1) = true then tl S 5 else (nI (sV S), putS (newS S (vr S x1) (sL S (vr S x1) + 1) (upX (sX S (vr S x1)) (sL S (vr S x1)) x2.toNatClampNeg) (upd (sW S (vr S x1)) (sL S (vr S x1)) x3) 1) x4.toNatClampNeg 1 (sV S))) else tl S (fG S x1)
def sp_cut (S : Sh) (x1 x2 x3 : Int32) : Int32 × Sh := if fG S x1 = 0 then (if x2 < 0 then tl S 4 else if nI (sL S (vr S x1)) < x2 then tl S 1 else if noP x3 = true then tl S 1 else if full S 0 = true then tl S 5 else (nI (sV S), putS (newS S (vr S x1) x2.toNatClampNeg (sX S (vr S x1)) (sW S (vr S x1)) 0) x3.toNatClampNeg 1 (sV S))) else tl S (fG S x1)
def fJ (S : Sh) (x1 x2 x3 x4 : Int32) : Nat := if fG S x1 = 0 then fS S x2 x3 x4 else fG S x1
theorem fJ_le (S : Sh) (x1 x2 x3 x4 : Int32) : fJ S x1 x2 x3 x4 ≤ 6 := by unfold fJ; have := fG_le S x1; have := fS_le S x2 x3 x4; split <;> omega
def sp_join (S : Sh) (x1 x2 x3 x4 x5 : Int32) : Int32 × Sh := if fJ S x1 x2 x3 x4 = 0 then (if noP x5 = true then tl S 1 else if (decide (400 < sL S (vr S x1) + (sa x4 - sa x3)) || full S (sa x4 - sa x3)) = true then tl S 5 else (nI (sV S), putS (newS S (vr S x1) (sL S (vr S x1) + (sa x4 - sa x3)) (behind (sX S (vr S x1)) (sX S (vr S x2)) (sL S (vr S x1)) (sa x3)) (behind (sW S (vr S x1)) (sW S (vr S x2)) (sL S (vr S x1)) (sa x3)) (sa x4 - sa x3)) x5.toNatClampNeg 1 (sV S))) else tl S (fJ S x1 x2 x3 x4)
def sp_turn (S : Sh) (x1 x2 x3 x4 : Int32) : Int32 × Sh := if fG S x1 = 0 then (if x2 < 0 then tl S 1 else if nI (sL S (vr S x1)) ≤ x2 then tl S 1 else if noX x3 = true then tl S 1 else if full S (sL S (vr S x1) - sa x2) = true then tl S 5 else (nI (sV S), putS (newS S (vr S x1) (sL S (vr S x1)) (upX (sX S (vr S x1)) (sa x2) x3.toNatClampNeg) (upd (sW S (vr S x1)) (sa x2) x4) (sL S (vr S x1) - sa x2)) x1.toNatClampNeg 1 (sV S))) else tl S (fG S x1)
/-- the new abstract shelf keeps what always holds -/
theorem InvS.new {S : Sh} (hI : InvS S) {v l d : Nat} {x : Nat → Nat} {w : Nat → Int32} (hv : v < sV S) (hn : sV S < 500) (hm : sM S + d ≤ 20000) (hl : l ≤ 400) (hx : ∀ i, i < l → x i < 1024) : InvS (newS S v l x w d) := by
  obtain ⟨a1, a2, a3, a4, a5, a6, a7, a8, a9⟩ := hI
  have key : ∀ {α : Type} (f : Nat → α) (y : α) (u : Nat), u < sV S → va_up f (sV S) y u = f u := fun f y u hu => va_up_ne f y (by omega)
  refine ⟨?_, ?_, hm, ?_, fun u hu => ?_, fun u hu h0 => ?_, fun u i hu hi => ?_, fun j hj => ?_, a9⟩
  · show 1 ≤ sV S + 1; omega
  · show sV S + 1 ≤ 500; omega
  · show va_up (sL S) (sV S) l 0 = 0; rw [key _ _ _ (by omega)]; exact a4
  · have hu : u < sV S + 1 := hu
    show va_up (sL S) (sV S) l u ≤ 400
    by_cases e : u = sV S
    · subst e; rw [va_up_self]; exact hl
    · rw [va_up_ne _ _ e]; exact a5 u (by omega)
  · have hu : u < sV S + 1 := hu
    show va_up (sP S) (sV S) v u < u
    by_cases e : u = sV S
    · subst e; rw [va_up_self]; exact hv
    · rw [va_up_ne _ _ e]; exact a6 u (by omega) h0
  · have hu : u < sV S + 1 := hu
    have hi : i < va_up (sL S) (sV S) l u := hi
    show va_up (sX S) (sV S) x u i < 1024
    by_cases e : u = sV S
    · subst e; rw [va_up_self] at hi ⊢; exact hx i hi
    · rw [va_up_ne _ _ e] at hi ⊢; exact a7 u i (by omega) hi
  · obtain ⟨b1, b2, b3⟩ := a8 j hj
    refine ⟨b1, fun h => ?_, fun h i hi => ?_⟩
    · have := b2 h; show sR S j < sV S + 1; omega
    · have h3 : sK S j = 3 := h
      have hr := b2 (by omega)
      have hi : i < va_up (sL S) (sV S) l (sR S j) := hi
      show va_up (sX S) (sV S) x (sR S j) i < 256
      rw [key _ _ _ hr] at hi ⊢
      exact b3 h3 i hi
theorem dep_fuel {q q' : Nat → Nat} : ∀ k j v, v ≤ k → v ≤ j → (∀ u, u ≤ v → u ≠ 0 → q u < u) → (∀ u, u ≤ v → q' u = q u) → depF q' k v = depF q j v := by
  intro k
  induction k with
  | zero =>
    intro j v hv _ _ _
    have : v = 0 := by omega
    subst this
    cases j with
    | zero => rfl
    | succ j => rw [depF, depF, if_pos rfl]
  | succ k ih =>
    intro j v hv hj hd he
    by_cases h0 : v = 0
    · subst h0
      cases j with
      | zero => rw [depF, depF, if_pos rfl]
      | succ j => rw [depF, depF, if_pos rfl, if_pos rfl]
    · have hq := hd v (Nat.le_refl _) h0
      cases j with
      | zero => omega
      | succ j =>
        rw [depF, depF, if_neg h0, if_neg h0, he _ (Nat.le_refl _), ih j (q v) (by omega) (by omega) (fun u hu => hd u (by omega)) (fun u hu => he u (by omega))]
def Grw (C : CS) (v kept d m : Nat) (x : Nat → Nat) (w : Nat → Int32) (C' : CS) : Prop :=
  cz C' = va_up (va_up (cz C) 0 (cz C 0 + 1)) 1 (cz C 1 + nI d) ∧ cr C' = cr C ∧ co C' = va_up (co C) 1 (va_up (co C 1) (cz C 0).toNatClampNeg (some (cn C))) ∧ cn C' = cn C + 1 ∧ cf C' = va_up (cf (addV C v (nI kept) (nI d))) v (va_up (cf (addV C v (nI kept) (nI d)) v) 8 (cf (addV C v (nI kept) (nI d)) v 8 + 1)) ∧ cp C' = va_up (cp C) (cn C) (some v) ∧ ck C' = va_up (ck C) (cn C) d ∧ (∀ u, u ≠ cn C → cv C' u = cv C u ∧ cw C' u = cw C u) ∧ ∀ j, j < m → cv C' (cn C) j = nI (x (kept + j)) ∧ cw C' (cn C) j = w (kept + j)
theorem mx_nI {d : Nat} (h : d < 2147483648) : mx (nI d) = nI d := by unfold mx; rw [if_neg (nI_pos h)]
theorem RelC.ok {C : CS} {S : Sh} (hR : RelC C S) : okC C := by
  have hI := hR.inv
  refine ⟨hR.2.2.2.2.2.2.2.1, hR.2.2.2.2.2.2.2.2.1, fun u v hu h => ?_⟩
  rw [hR.n] at hu ⊢
  rw [(hR.ver hu).2.1] at h
  by_cases e : u = 0
  · rw [if_pos e] at h; cases h
  · rw [if_neg e] at h; cases h
    have := hI.2.2.2.2.2.1 u hu e; omega
theorem pc_grow {post : CS → Prop} {C : CS} {S : Sh} (hR : RelC C S) {v kept d : Nat} {x : Nat → Nat} {w : Nat → Int32} (hv : v < sV S) (hn : sV S < 500) (hd : d ≤ 400) (h : ∀ C', Grw C v kept d 0 x w C' → post C') : w_X3_grow post C v (nI kept) (nI d) := by
  have hz : cz C 0 = nI (sV S) := hR.2.2.1
  refine ⟨by rw [hR.n]; exact hv, hR.ok, by rw [mx_nI (by omega), tn_nI (by omega)]; exact hd, ?_, ?_, ?_, ?_⟩
  · show v < cn C + 1; rw [hR.n]; omega
  · show cn C < cn C + 1; omega
  · show vp_in (cz C 0) 500; rw [hz]; exact vin_nI (by omega) (by omega)
  · refine h _ ⟨rfl, rfl, rfl, rfl, rfl, rfl, ?_, fun u hu => ⟨va_up_ne _ _ hu, va_up_ne _ _ hu⟩, fun j hj => by omega⟩
    show va_up (ck C) (cn C) (mx (nI d)).toNatClampNeg = _
    rw [mx_nI (by omega), tn_nI (by omega)]
theorem pc_write {post : CS → Prop} {C0 C : CS} {v kept d m : Nat} {x : Nat → Nat} {w : Nat → Int32} (hg : Grw C0 v kept d m x w C) (hm : m < d) (hd : d ≤ 400) {vi wi : Int32} (hvi : vi = nI (x (kept + m))) (hwi : wi = w (kept + m)) (h : ∀ C', Grw C0 v kept d (m + 1) x w C' → post C') : w_X2_writeOwn post C (cn C0) (nI m) vi wi := by
  obtain ⟨g1, g2, g3, g4, g5, g6, g7, g8, g9⟩ := hg
  have ek : ck C (cn C0) = d := by rw [g7, va_up_self]
  refine ⟨fun q => absurd q (nI_pos (by omega)), fun _ => ⟨by rw [g4]; omega, fun q => absurd q (by rw [ek]; exact nI_ge (by omega) (by omega)), fun _ => ⟨fun q => absurd q (by rw [ek]; exact nI_ge (by omega) (by omega)), fun _ => ⟨by rw [ek]; exact vin_nI hm (by omega), ?_⟩⟩⟩⟩
  rw [tn_nI (by omega)]
  refine h _ ⟨g1, g2, g3, g4, g5, g6, g7, fun u hu => ?_, fun j hj => ?_⟩
  · show va_up (cv C) (cn C0) _ u = _ ∧ va_up (cw C) (cn C0) _ u = _
    rw [va_up_ne _ _ hu, va_up_ne _ _ hu]; exact g8 u hu
  · show va_up (cv C) (cn C0) (upd (cv C (cn C0)) m vi) (cn C0) j = _ ∧ va_up (cw C) (cn C0) (upd (cw C (cn C0)) m wi) (cn C0) j = _
    rw [va_up_self, va_up_self]
    by_cases e : j = m
    · subst e; rw [pk_us, pk_us]; exact ⟨hvi, hwi⟩
    · rw [pk_un e, pk_un e]; exact g9 j (by omega)
theorem chl_new {S : Sh} {v l d u : Nat} {x : Nat → Nat} {w : Nat → Int32} (h1 : 1 ≤ sV S) : chl (newS S v l x w d) u = chl S u + (if v = u then 1 else 0) := by
  show fb_ct (fun t => decide (1 ≤ t ∧ va_up (sP S) (sV S) v t = u)) (sV S + 1) = _
  rw [fb_ct_succ, va_up_self]
  have e1 : fb_ct (fun t => decide (1 ≤ t ∧ va_up (sP S) (sV S) v t = u)) (sV S) = chl S u := fb_ct_cong (fun t ht => by rw [va_up_ne _ _ (by omega)])
  rw [e1]
  by_cases e : v = u <;> simp [e, h1]
/-- the state behind the last write holds the shelf with the new version -/
theorem RelC.grown {C C' : CS} {S : Sh} (hR : RelC C S) {v kept d : Nat} {x : Nat → Nat} {w : Nat → Int32} (hv : v < sV S) (hn : sV S < 500) (hm : sM S + d ≤ 20000) (hk : kept ≤ sL S v) (hl : kept + d ≤ 400) (hx : ∀ i, i < kept + d → x i < 1024) (hs : ∀ i, i < kept → x i = sX S v i ∧ w i = sW S v i) (hg : Grw C v kept d d x w C') : RelC C' (newS S v (kept + d) x w d) := by
  obtain ⟨g1, g2, g3, g4, g5, g6, g7, g8, g9⟩ := hg
  obtain ⟨hI, hcn, hz0, hz1, hz2, hsh, hhi, ho1, ho2, hst, hfo, ke, hV⟩ := hR
  have hI' := hI
  obtain ⟨a1, a2, a3, a4, a5, a6, a7, a8, a9⟩ := hI'
  have key : ∀ {α : Type} (f : Nat → α) (y : α) (u : Nat), u < sV S → va_up f (sV S) y u = f u := fun f y u hu => va_up_ne f y (by omega)
  have etn : (cz C 0).toNatClampNeg = sV S := by rw [hz0, tn_nI (by omega)]
  refine ⟨hI.new hv hn hm hl hx, ?_, ?_, ?_, ?_, fun j hj => ?_, fun i hi => ?_, fun i u hu => ?_, fun i u hu => ?_, fun i hi => ?_, fun i hi => ?_, va_up ke (sV S) kept, fun u hu => ?_⟩
  · rw [g4, hcn]; rfl
  · rw [g1]; show cz C 0 + 1 = nI (sV S + 1); rw [hz0, nI_1]
  · rw [g1]; show cz C 1 + nI d = nI (sM S + d); rw [hz1, nI_add]
  · rw [g1]; show cz C 2 = nI (sN S); exact hz2
  · rw [g2, g3]; exact hsh j hj
  · rw [g4, hcn] at hi
    rw [g3]
    show va_up (co C 1) (cz C 0).toNatClampNeg (some (cn C)) i = some i
    rw [etn, hcn]
    by_cases e : i = sV S
    · subst e; rw [va_up_self]
    · rw [va_up_ne _ _ e]; exact hhi i (by omega)
  · rw [g3] at hu
    have hu : va_up (co C 1) (cz C 0).toNatClampNeg (some (cn C)) i = some u := hu
    rw [g4]
    rw [etn] at hu
    by_cases e : i = sV S
    · subst e; rw [va_up_self] at hu; cases hu; omega
    · rw [va_up_ne _ _ e] at hu; have := ho1 i u hu; omega
  · rw [g3] at hu
    have hu : co C 2 i = some u := hu
    rw [g4]
    have := ho2 i u hu; omega
  · rw [g2]; exact hst i hi
  · rw [g2]; exact hfo i hi
  · rw [g4, hcn] at hu
    obtain ⟨v0, v1, v2, v3, v6, v7, v8, v9, v10, v11, v12, v13⟩ := hV v (by rw [hcn]; exact hv)
    have ecf : ∀ u, cf (addV C v (nI kept) (nI d)) u = va_up (cf C) (sV S) (newf C v (nI kept) (nI d)) u := fun u => by show va_up (cf C) (cn C) _ u = _; rw [hcn]
    rw [g5, g6, g7, hcn]
    rw [hcn] at g8 g9
    by_cases e : u = sV S
    · subst e
      have hne : sV S ≠ v := by omega
      obtain ⟨q1, q2⟩ : sV S ≠ 0 ∧ True := ⟨by omega, trivial⟩
      rw [va_up_ne _ _ hne, ecf, va_up_self, va_up_self, va_up_self, va_up_self, if_neg q1]
      have eP : sP (newS S v (kept + d) x w d) (sV S) = v := va_up_self _ _ _
      have eL : sL (newS S v (kept + d) x w d) (sV S) = kept + d := va_up_self _ _ _
      have eX : sX (newS S v (kept + d) x w d) (sV S) = x := va_up_self _ _ _
      have eW : sW (newS S v (kept + d) x w d) (sV S) = w := va_up_self _ _ _
      rw [eP, eL, eX, eW]
      have eLv : sL (newS S v (kept + d) x w d) v = sL S v := key _ _ _ hv
      have eXv : sX (newS S v (kept + d) x w d) v = sX S v := key _ _ _ hv
      have eWv : sW (newS S v (kept + d) x w d) v = sW S v := key _ _ _ hv
      rw [eLv, eXv, eWv]
      refine ⟨?_, rfl, rfl, ?_, ?_, ?_, ?_, by omega, by omega, fun j hj => g9 j (by omega), fun _ => ⟨hk, hs⟩, fun h => absurd h q1⟩
      · show cz C 0 = nI (sV S); exact hz0
      · show nI kept + mx (nI d) = nI (kept + d); rw [mx_nI (by omega), nI_add]
      · show (if 0 < cf C v 8 then (1 : Int32) else 0) = frk (newS S v (kept + d) x w d) (sV S)
        rw [v8]
        unfold frk
        rw [eP]
        have ec : fb_ct (fun u => decide (1 ≤ u ∧ sP (newS S v (kept + d) x w d) u = v)) (sV S) = chl S v := fb_ct_cong (fun t ht => by show decide (1 ≤ t ∧ va_up (sP S) (sV S) v t = v) = _; rw [key _ _ _ ht])
        rw [ec]
        have hcl : chl S v ≤ sV S := fb_ct_le _ _
        by_cases z : chl S v = 0
        · rw [if_pos z, z, if_neg (by decide)]
        · rw [if_neg z]; exact if_pos (show nI 0 < nI (chl S v) from nI_lt (by omega) (by omega))
      · show cf C v 7 + 1 = nI (dep (newS S v (kept + d) x w d) (sV S))
        rw [v7, nI_1]
        congr 1
        obtain ⟨k, hk2⟩ : ∃ k, sV S = k + 1 := ⟨sV S - 1, by omega⟩
        have : dep (newS S v (kept + d) x w d) (sV S) = depF (sP (newS S v (kept + d) x w d)) k v + 1 := by
          unfold dep
          rw [show depF (sP (newS S v (kept + d) x w d)) (sV S) (sV S) = depF (sP (newS S v (kept + d) x w d)) (k + 1) (sV S) by rw [← hk2], depF, if_neg q1, eP]
        rw [this]
        unfold dep
        rw [dep_fuel (q := sP S) (q' := sP (newS S v (kept + d) x w d)) k v v (by omega) (Nat.le_refl _) (fun u hu h0 => a6 u (by omega) h0) (fun u hu => key _ _ _ (by omega))]
      · show (0 : Int32) = nI (chl (newS S v (kept + d) x w d) (sV S))
        rw [chl_new a1, if_neg (by omega), Nat.add_zero]
        have : chl S (sV S) = 0 := fb_ct_zero.mpr (fun t ht => by
          simp only [decide_eq_false_iff_not]
          rintro ⟨h1, h2⟩
          have := a6 t ht (by omega); omega)
        rw [this]; rfl
    · have hu2 : u < sV S := by omega
      obtain ⟨w0, w1, w2, w3, w6, w7, w8, w9, w10, w11, w12, w13⟩ := hV u (by rw [hcn]; exact hu2)
      obtain ⟨g8a, g8b⟩ := g8 u e
      have eP : sP (newS S v (kept + d) x w d) u = sP S u := key _ _ _ hu2
      have eL : sL (newS S v (kept + d) x w d) u = sL S u := key _ _ _ hu2
      have eX : sX (newS S v (kept + d) x w d) u = sX S u := key _ _ _ hu2
      have eW : sW (newS S v (kept + d) x w d) u = sW S u := key _ _ _ hu2
      have eF : ∀ k, k ≠ 8 → va_up (cf (addV C v (nI kept) (nI d))) v (va_up (cf (addV C v (nI kept) (nI d)) v) 8 (cf (addV C v (nI kept) (nI d)) v 8 + 1)) u k = cf C u k := fun k hk8 => by
        by_cases z : u = v
        · subst z; rw [va_up_self, va_up_ne _ _ hk8, ecf, key _ _ _ hu2]
        · rw [va_up_ne _ _ z, ecf, key _ _ _ hu2]
      rw [eF 0 (by omega), eF 2 (by omega), eF 3 (by omega), eF 6 (by omega), eF 7 (by omega), va_up_ne _ _ e, va_up_ne _ _ e, va_up_ne _ _ e, eP, eL, eX, eW, g8a, g8b]
      refine ⟨w0, w1, w2, w3, ?_, ?_, ?_, w9, w10, w11, fun h0 => ?_, w13⟩
      · rw [w6]
        unfold frk
        rw [eP]
        have ec : fb_ct (fun t => decide (1 ≤ t ∧ sP (newS S v (kept + d) x w d) t = sP S u)) u = fb_ct (fun t => decide (1 ≤ t ∧ sP S t = sP S u)) u := fb_ct_cong (fun t ht => by show decide (1 ≤ t ∧ va_up (sP S) (sV S) v t = _) = _; rw [key _ _ _ (by omega)])
        rw [ec]
      · rw [w7]
        unfold dep
        rw [dep_fuel (q := sP S) (q' := sP (newS S v (kept + d) x w d)) u u u (Nat.le_refl _) (Nat.le_refl _) (fun t ht h0 => a6 t (by omega) h0) (fun t ht => key _ _ _ (by omega))]
      · rw [chl_new a1]
        by_cases z : u = v
        · subst z
          rw [va_up_self, va_up_self, if_pos rfl, ecf, key _ _ _ hu2, w8, nI_1]
        · rw [va_up_ne _ _ z, ecf, key _ _ _ hu2, w8, if_neg (fun q => z q.symm), Nat.add_zero]
      · have hp := a6 u hu2 h0
        have eL2 : sL (newS S v (kept + d) x w d) (sP S u) = sL S (sP S u) := key _ _ _ (by omega)
        have eX2 : sX (newS S v (kept + d) x w d) (sP S u) = sX S (sP S u) := key _ _ _ (by omega)
        have eW2 : sW (newS S v (kept + d) x w d) (sP S u) = sW S (sP S u) := key _ _ _ (by omega)
        rw [eL2, eX2, eW2]
        exact w12 h0
section CGROW
variable {post : Int32 → CS → Prop} {C : CS} {S : Sh} {x1 x2 x3 x4 x5 : Int32}
theorem full_t {d : Nat} (h : sV S ≥ 500 ∨ 20000 < sM S + d) : full S d = true := by unfold full; rcases h with h | h <;> simp [h]
theorem full_f {d : Nat} (h1 : ¬ 500 ≤ sV S) (h2 : ¬ 20000 < sM S + d) : ¬ full S d = true := by unfold full; simp [h1, h2]
theorem pc_room (hR : RelC C S) {d : Nat} (hd : d ≤ 400) (ht : sV S < 500 → sM S + d ≤ 20000 → full S d ≠ true → post 1 C) (hf : full S d = true → post 0 C) : w_X3_hasRoomFor post C (nI d) := by
  have hI := hR.inv
  have b2 := hI.2.1
  have b3 := hI.2.2.1
  have hz0 : cz C 0 = nI (sV S) := hR.2.2.1
  have hz1 : cz C 1 = nI (sM S) := hR.2.2.2.1
  unfold w_X3_hasRoomFor
  rw [hz0, hz1, show (500 : Int32) = nI 500 from rfl, show (20000 : Int32) = nI 20000 from rfl, pk_sub b3]
  refine ⟨fun q => ?_, fun q => ⟨fun q2 => ?_, fun q2 => ?_⟩⟩
  · rw [nI_leI (by omega) (by omega)] at q; exact hf (full_t (Or.inl q))
  · rw [nI_ltI (by omega) (by omega)] at q2; exact hf (full_t (Or.inr (by omega)))
  · rw [nI_leI (by omega) (by omega)] at q
    rw [nI_ltI (by omega) (by omega)] at q2
    exact ht (by omega) (by omega) (full_f (by omega) (by omega))
theorem val_lt {x : Int32} (h0 : ¬ x < 0) (h1 : ¬ (1023 : Int32) < x) : x = nI x.toNatClampNeg ∧ x.toNatClampNeg < 1024 := by
  have h2 := tn_int h0
  rw [fa_lt] at h1
  have h3 : (1023 : Int32).toInt = 1023 := rfl
  exact ⟨(nI_tn h0).symm, by omega⟩
theorem pc_push (hR : RelC C S) (h : ∀ C', RelC C' (sp_push S x1 x2 x3 x4).2 → post (sp_push S x1 x2 x3 x4).1 C') : w_X3_push post C x1 x2 x3 x4 := by
  unfold sp_push at h
  refine pc_findG hR ⟨fun e => ?_, fun e => ?_⟩
  · have e := (ng_ne _ (fG_le S x1)).mp e
    rw [if_pos e] at h
    obtain ⟨hi, a1, a2, a3, a4, a5, a6, a7, a8⟩ := hR.at (fG_0 e).1
    refine pc_value (fun g0 g1 => ⟨fun q => absurd q (by decide), fun _ => ?_⟩) (fun hb => ⟨fun _ => ?_, fun q => absurd rfl q⟩)
    · rw [if_neg (noX_f g0 g1)] at h
      obtain ⟨ex, hx2⟩ := val_lt g0 g1
      refine pc_place (fun hj k0 k1 => ⟨fun _ => ⟨hi, fun w hw => ⟨_, hw.trans a1, a4, fun q => ?_, fun q => ?_⟩⟩, fun q => absurd q (by decide)⟩) (fun hb => ⟨fun q => absurd rfl q, fun _ => ?_⟩)
      · rw [a5, show (400 : Int32) = nI 400 from rfl, nI_leI (by omega) (by omega)] at q
        rw [if_neg (noP_f k0 k1), if_pos (by simp [q])] at h
        exact pc_told (k := 5) hR (by decide) (by decide) h
      · rw [a5, show (400 : Int32) = nI 400 from rfl, nI_leI (by omega) (by omega)] at q
        rw [if_neg (noP_f k0 k1)] at h
        refine pc_room (d := 1) hR (by omega) (fun m1 m2 m3 => ⟨fun _ => ⟨a4, ?_⟩, fun q => absurd q (by decide)⟩) (fun hb => ⟨fun q => absurd rfl q, fun _ => ?_⟩)
        · rw [if_neg (by simp only [Bool.or_eq_true, decide_eq_true_eq]; rintro (z | z); exact q z; exact m3 z)] at h
          rw [a5]
          refine pc_grow (x := upX (sX S (vr S x1)) (sL S (vr S x1)) x2.toNatClampNeg) (w := upd (sW S (vr S x1)) (sL S (vr S x1)) x3) hR a3 m1 (d := 1) (by omega) (fun C1 hg => ⟨by rw [hg.2.2.2.1]; omega, pc_write (m := 0) hg (by omega) (by omega) ?_ ?_ (fun C2 hg2 => ?_)⟩)
          · rw [Nat.add_zero]; unfold upX; rw [if_pos rfl]; exact ex
          · rw [Nat.add_zero, pk_us]
          · have hR2 := hR.grown a3 m1 m2 (Nat.le_refl _) (by omega) (fun i hi2 => ?_) (fun i hi2 => ?_) hg2
            · refine ⟨by rw [hg2.2.2.2.1]; omega, ?_⟩
              rw [hR.n]
              exact pc_show hR2 (show sV S < sV S + 1 by omega) hj (fun C' hR' _ => h C' hR')
            · unfold upX
              by_cases z : i = sL S (vr S x1)
              · rw [if_pos z]; exact hx2
              · rw [if_neg z]; exact hR.inv.2.2.2.2.2.2.1 _ i a3 (by omega)
            · unfold upX
              rw [if_neg (by omega), pk_un (by omega)]; exact ⟨rfl, rfl⟩
        · rw [if_pos (by simp [hb])] at h
          exact pc_told (k := 5) hR (by decide) (by decide) h
      · rw [if_pos (noP_t hb)] at h
        exact pc_told (k := 1) hR (by decide) (by decide) h
    · rw [if_pos (noX_t hb)] at h
      exact pc_told (k := 1) hR (by decide) (by decide) h
  · have e2 : ¬ fG S x1 = 0 := fun q => e (by rw [q]; rfl)
    rw [if_neg e2] at h
    exact pc_told hR (fG_le S x1) e2 h
theorem pc_cut (hR : RelC C S) (h : ∀ C', RelC C' (sp_cut S x1 x2 x3).2 → post (sp_cut S x1 x2 x3).1 C') : w_X3_cut post C x1 x2 x3 := by
  unfold sp_cut at h
  refine pc_findG hR ⟨fun e => ?_, fun e => ?_⟩
  · have e := (ng_ne _ (fG_le S x1)).mp e
    rw [if_pos e] at h
    obtain ⟨hi, a1, a2, a3, a4, a5, a6, a7, a8⟩ := hR.at (fG_0 e).1
    refine ⟨fun g => ⟨hi, fun w hw => ⟨_, hw.trans a1, a4, fun q => ?_, fun q => ?_⟩⟩, fun g => ?_⟩
    · rw [a5] at q
      rw [if_neg (Int32.not_lt.mpr g), if_pos q] at h
      exact pc_told (k := 1) hR (by decide) (by decide) h
    · rw [a5] at q
      rw [if_neg (Int32.not_lt.mpr g), if_neg q] at h
      have h2 := tn_int (Int32.not_lt.mpr g)
      rw [fa_lt, nI_toInt (by omega)] at q
      refine pc_place (fun hj k0 k1 => ⟨fun _ => ?_, fun q => absurd q (by decide)⟩) (fun hb => ⟨fun q => absurd rfl q, fun _ => ?_⟩)
      · rw [if_neg (noP_f k0 k1)] at h
        refine pc_room (d := 0) hR (by omega) (fun m1 m2 m3 => ⟨fun _ => ⟨a4, ?_⟩, fun q => absurd q (by decide)⟩) (fun hb => ⟨fun q => absurd rfl q, fun _ => ?_⟩)
        · rw [if_neg m3] at h
          rw [show x2 = nI x2.toNatClampNeg from (nI_tn (Int32.not_lt.mpr g)).symm]
          refine pc_grow (x := sX S (vr S x1)) (w := sW S (vr S x1)) (d := 0) hR a3 m1 (by omega) (fun C1 hg => ?_)
          have hR2 := hR.grown a3 m1 m2 (show x2.toNatClampNeg ≤ _ by omega) (by omega) (fun i hi2 => hR.inv.2.2.2.2.2.2.1 _ i a3 (by omega)) (fun i hi2 => ⟨rfl, rfl⟩) hg
          refine ⟨by rw [hg.2.2.2.1]; omega, ?_⟩
          rw [hR.n]
          exact pc_show hR2 (show sV S < sV S + 1 by omega) hj (fun C' hR' _ => h C' hR')
        · rw [if_pos hb] at h
          exact pc_told (k := 5) hR (by decide) (by decide) h
      · rw [if_pos (noP_t hb)] at h
        exact pc_told (k := 1) hR (by decide) (by decide) h
    · rw [if_pos (Int32.not_le.mp g)] at h
      exact pc_told (k := 4) hR (by decide) (by decide) h
  · have e2 : ¬ fG S x1 = 0 := fun q => e (by rw [q]; rfl)
    rw [if_neg e2] at h
    exact pc_told hR (fG_le S x1) e2 h
theorem lp_join {C0 : CS} {v kept d a : Nat} {x : Nat → Nat} {w : Nat → Int32} (hd : d ≤ 400) (ha : a + d ≤ 400) (hF : ∀ j, j < d → cr C0 5 (a + j) = nI (x (kept + j)) ∧ cr C0 6 (a + j) = w (kept + j)) (hp : ∀ C, Grw C0 v kept d d x w C → w_X3_showGrown post C (cn C0) x5) : ∀ k m C, m + k = d → Grw C0 v kept d m x w C → w_X3_join_123 post (k + 1) C (nI a) x5 (nI d) (some (cn C0)) (nI m) := by
  intro k
  induction k with
  | zero =>
    intro m C hm hg
    have e : m = d := by omega
    subst e
    exact ⟨fun _ => ⟨_, rfl, by rw [hg.2.2.2.1]; omega, hp C hg⟩, fun q => absurd (nI_le (by omega) (by omega)) q⟩
  | succ k ih =>
    intro m C hm hg
    refine ⟨fun q => absurd q (nI_ge (by omega) (by omega)), fun _ => ⟨by rw [nI_add]; exact vin_nI (by omega) (by omega), _, rfl, by rw [hg.2.2.2.1]; omega, ?_⟩⟩
    rw [nI_add, tn_nI (by omega)]
    refine pc_write hg (by omega) hd (by rw [hg.2.1]; exact (hF m (by omega)).1) (by rw [hg.2.1]; exact (hF m (by omega)).2) (fun C2 hg2 => ?_)
    rw [nI_1]
    exact ih (m + 1) C2 (by omega) hg2
theorem pc_join22 (hR : RelC C S) (h : ∀ C', RelC C' (sp_join S x1 x2 x3 x4 x5).2 → post (sp_join S x1 x2 x3 x4 x5).1 C') : w_X3_join_22 post C x1 x2 x3 x4 x5 (ng (fJ S x1 x2 x3 x4)) := by
  unfold sp_join at h
  refine ⟨fun e => ?_, fun e => ?_⟩
  · have e := (ng_ne _ (fJ_le S x1 x2 x3 x4)).mp e
    rw [if_pos e] at h
    have hG : fG S x1 = 0 := by
      unfold fJ at e
      by_cases q : fG S x1 = 0
      · exact q
      · rw [if_neg q] at e; exact e
    have hS : fS S x2 x3 x4 = 0 := by unfold fJ at e; rw [if_pos hG] at e; exact e
    obtain ⟨hi, a1, a2, a3, a4, a5, a6, a7, a8⟩ := hR.at (fG_0 hG).1
    obtain ⟨f0, f1, f2, f3⟩ := fS_0 hS
    obtain ⟨hi2, b1, b2, b3, b4, b5, b6, b7, b8⟩ := hR.at f0
    obtain ⟨i, j, rfl, rfl, hij, hjl⟩ := span_nat b6 f1 f2 f3
    rw [sa_nI (by omega), sa_nI (by omega)] at h
    refine pc_place (fun hj k0 k1 => ⟨fun _ => ⟨hi, fun w hw => ⟨_, hw.trans a1, a4, ?_⟩⟩, fun q => absurd q (by decide)⟩) (fun hb => ⟨fun q => absurd rfl q, fun _ => ?_⟩)
    · rw [if_neg (noP_f k0 k1)] at h
      rw [a5, show (400 : Int32) = nI 400 from rfl, pk_sub a6, pk_sub hij, nI_ltI (by omega) (by omega)]
      refine ⟨fun q => ?_, fun q => ?_⟩
      · rw [if_pos (by simp only [Bool.or_eq_true, decide_eq_true_eq]; exact Or.inl (by omega))] at h
        exact pc_told (k := 5) hR (by decide) (by decide) h
      · refine pc_room hR (by omega) (fun m1 m2 m3 => ⟨fun _ => ⟨hi2, fun w2 hw2 => ⟨_, hw2.trans b1, b4, pc_lay4 hR b3 (fun C1 hs1 hz1 hF1 hR1 => ⟨by rw [hR1.n]; exact a3, ?_⟩)⟩⟩, fun q => absurd q (by decide)⟩) (fun hb => ⟨fun q => absurd rfl q, fun _ => ?_⟩)
        · rw [if_neg (by simp only [Bool.or_eq_true, decide_eq_true_eq]; rintro (z | z); omega; exact m3 z)] at h
          rw [(hR1.ver a3).2.2.1]
          refine pc_grow (x := behind (sX S (vr S x1)) (sX S (vr S x2)) (sL S (vr S x1)) i) (w := behind (sW S (vr S x1)) (sW S (vr S x2)) (sL S (vr S x1)) i) hR1 a3 m1 (by omega) (fun C2 hg => ⟨j - i + 1, ?_⟩)
          refine lp_join (by omega) (by omega) (fun t ht => ?_) (fun C3 hg3 => ?_) (j - i) 0 C2 (by omega) hg
          · unfold behind
            rw [if_neg (by omega), if_neg (by omega), show i + (sL S (vr S x1) + t - sL S (vr S x1)) = i + t by omega]
            exact hF1 (i + t) (by omega)
          · have hR3 := hR1.grown a3 m1 m2 (Nat.le_refl _) (by omega) (fun t ht => ?_) (fun t ht => ?_) hg3
            · rw [hR1.n]
              exact pc_show hR3 (show sV S < sV S + 1 by omega) hj (fun C' hR' _ => h C' hR')
            · unfold behind
              by_cases z : t < sL S (vr S x1)
              · rw [if_pos z]; exact hR.inv.2.2.2.2.2.2.1 _ t a3 z
              · rw [if_neg z]; exact hR.inv.2.2.2.2.2.2.1 _ _ b3 (by omega)
            · unfold behind
              rw [if_pos ht, if_pos ht]; exact ⟨rfl, rfl⟩
        · rw [if_pos (by simp [hb])] at h
          exact pc_told (k := 5) hR (by decide) (by decide) h
    · rw [if_pos (noP_t hb)] at h
      exact pc_told (k := 1) hR (by decide) (by decide) h
  · have e2 : ¬ fJ S x1 x2 x3 x4 = 0 := fun q => e (by rw [q]; rfl)
    rw [if_neg e2] at h
    exact pc_told hR (fJ_le S x1 x2 x3 x4) e2 h
theorem pc_join (hR : RelC C S) (h : ∀ C', RelC C' (sp_join S x1 x2 x3 x4 x5).2 → post (sp_join S x1 x2 x3 x4 x5).1 C') : w_X3_join post C x1 x2 x3 x4 x5 := by
  have h22 := pc_join22 hR h
  refine pc_findG hR ⟨fun e => ?_, fun e => ?_⟩
  · have e2 : ¬ fG S x1 = 0 := fun q => e (by rw [q]; rfl)
    have : fJ S x1 x2 x3 x4 = fG S x1 := by unfold fJ; rw [if_neg e2]
    rw [this] at h22; exact h22
  · have e2 := (ng_ne _ (fG_le S x1)).mp e
    have : fJ S x1 x2 x3 x4 = fS S x2 x3 x4 := by unfold fJ; rw [if_pos e2]
    rw [this] at h22
    exact pc_findS hR h22
theorem lp_turn {C0 : CS} {v kept d : Nat} {x : Nat → Nat} {w : Nat → Int32} (hd : d ≤ 400) (ha : kept + d ≤ 400) (hF : ∀ j, j ≠ 0 → j < d → cr C0 5 (kept + j) = nI (x (kept + j)) ∧ cr C0 6 (kept + j) = w (kept + j)) (hp : ∀ C, Grw C0 v kept d d x w C → w_X3_showGrown post C (cn C0) x1) : ∀ k m C, m ≠ 0 → m + k = d → Grw C0 v kept d m x w C → w_X3_turn_110 post (k + 1) C x1 (nI kept) (nI d) (some (cn C0)) (nI m) := by
  intro k
  induction k with
  | zero =>
    intro m C h0 hm hg
    have e : m = d := by omega
    subst e
    exact ⟨fun _ => ⟨_, rfl, by rw [hg.2.2.2.1]; omega, hp C hg⟩, fun q => absurd (nI_le (by omega) (by omega)) q⟩
  | succ k ih =>
    intro m C h0 hm hg
    refine ⟨fun q => absurd q (nI_ge (by omega) (by omega)), fun _ => ⟨by rw [nI_add]; exact vin_nI (by omega) (by omega), _, rfl, by rw [hg.2.2.2.1]; omega, ?_⟩⟩
    rw [nI_add, tn_nI (by omega)]
    refine pc_write hg (by omega) hd (by rw [hg.2.1]; exact (hF m h0 (by omega)).1) (by rw [hg.2.1]; exact (hF m h0 (by omega)).2) (fun C2 hg2 => ?_)
    rw [nI_1]
    exact ih (m + 1) C2 (by omega) (by omega) hg2
theorem pc_turn (hR : RelC C S) (h : ∀ C', RelC C' (sp_turn S x1 x2 x3 x4).2 → post (sp_turn S x1 x2 x3 x4).1 C') : w_X3_turn post C x1 x2 x3 x4 := by
  unfold sp_turn at h
  refine pc_findG hR ⟨fun e => ?_, fun e => ?_⟩
  · have e := (ng_ne _ (fG_le S x1)).mp e
    rw [if_pos e] at h
    obtain ⟨hi, a1, a2, a3, a4, a5, a6, a7, a8⟩ := hR.at (fG_0 e).1
    refine ⟨hi, fun w hw => ⟨fun g => ?_, fun g => ⟨_, hw.trans a1, a4, fun q => ?_, fun q => ?_⟩⟩⟩
    · rw [if_pos g] at h
      exact pc_told (k := 1) hR (by decide) (by decide) h
    · rw [a5] at q
      rw [if_neg g, if_pos q] at h
      exact pc_told (k := 1) hR (by decide) (by decide) h
    · rw [a5] at q
      rw [if_neg g, if_neg q] at h
      obtain ⟨i, rfl, hil⟩ := idx_nat a6 g q
      rw [sa_nI (by omega)] at h
      refine pc_value (fun g0 g1 => ⟨fun _ => ⟨a4, ?_⟩, fun q => absurd q (by decide)⟩) (fun hb => ⟨fun q => absurd rfl q, fun _ => ?_⟩)
      · rw [if_neg (noX_f g0 g1)] at h
        obtain ⟨ex, hx2⟩ := val_lt g0 g1
        rw [a5, pk_sub (by omega)]
        refine pc_room hR (by omega) (fun m1 m2 m3 => ⟨fun _ => ⟨a4, pc_lay4 hR a3 (fun C1 hs1 hz1 hF1 hR1 => ⟨by rw [hR1.n]; exact a3, ?_⟩)⟩, fun q => absurd q (by decide)⟩) (fun hb => ⟨fun q => absurd rfl q, fun _ => ?_⟩)
        · rw [if_neg m3] at h
          refine pc_grow (x := upX (sX S (vr S x1)) i x3.toNatClampNeg) (w := upd (sW S (vr S x1)) i x4) hR1 a3 m1 (by omega) (fun C2 hg => ⟨by rw [hg.2.2.2.1]; omega, pc_write (m := 0) hg (by omega) (by omega) ?_ ?_ (fun C3 hg3 => ⟨sL S (vr S x1) - i - 1 + 1, ?_⟩)⟩)
          · rw [Nat.add_zero]; unfold upX; rw [if_pos rfl]; exact ex
          · rw [Nat.add_zero, pk_us]
          · refine lp_turn (kept := i) (d := sL S (vr S x1) - i) (by omega) (by omega) (fun t h0 ht => ?_) (fun C4 hg4 => ?_) (sL S (vr S x1) - i - 1) 1 C3 (by omega) (by omega) hg3
            · unfold upX
              rw [if_neg (by omega), pk_un (by omega)]
              exact hF1 (i + t) (by omega)
            · have hR4 := hR1.grown a3 m1 m2 (show i ≤ _ by omega) (by omega) (fun t ht => ?_) (fun t ht => ?_) hg4
              · rw [show i + (sL S (vr S x1) - i) = sL S (vr S x1) by omega] at hR4
                rw [hR1.n]
                exact pc_show hR4 (show sV S < sV S + 1 by omega) hi (fun C' hR' _ => h C' hR')
              · unfold upX
                by_cases z : t = i
                · rw [if_pos z]; exact hx2
                · rw [if_neg z]; exact hR.inv.2.2.2.2.2.2.1 _ t a3 (by omega)
              · unfold upX
                rw [if_neg (by omega), pk_un (by omega)]; exact ⟨rfl, rfl⟩
        · rw [if_pos hb] at h
          exact pc_told (k := 5) hR (by decide) (by decide) h
      · rw [if_pos (noX_t hb)] at h
        exact pc_told (k := 1) hR (by decide) (by decide) h
  · have e2 : ¬ fG S x1 = 0 := fun q => e (by rw [q]; rfl)
    rw [if_neg e2] at h
    exact pc_told hR (fG_le S x1) e2 h
end CGROW
