/-! ===== planes ===== -/
def splL (p : Nat → Bool) (l : List Nat) : List Nat := l.filter (fun e => !p e) ++ l.filter p
def bitP (X : Nat → Nat) (s : Nat) : Nat → Bool := fun e => decide (X e / 2 ^ s % 2 = 1)
def ordL (X : Nat → Nat) (top : Nat) : Nat → List Nat → List Nat
  | 0, l => l
  | k + 1, l => splL (bitP X (top - k)) (ordL X top k l)
def HoldsL (X : Nat → Nat) (f : Nat → Int32) (l : List Nat) : Prop := ∀ m e, l[m]? = some e → f m = nI (X e)
theorem splL_len (p : Nat → Bool) (l : List Nat) : (splL p l).length = l.length := by
  unfold splL
  rw [List.length_append]
  induction l with
  | nil => rfl
  | cons e l ih =>
    cases h : p e <;> simp [List.filter_cons, h] <;> omega
theorem splL_mem {p : Nat → Bool} {l : List Nat} {e : Nat} (h : e ∈ splL p l) : e ∈ l := by
  unfold splL at h
  rcases List.mem_append.mp h with h | h
  · exact (List.mem_filter.mp h).1
  · exact (List.mem_filter.mp h).1
theorem ordL_len (X : Nat → Nat) (top : Nat) : ∀ k l, (ordL X top k l).length = l.length
  | 0, _ => rfl
  | k + 1, l => by rw [ordL, splL_len, ordL_len X top k l]
theorem ordL_mem {X : Nat → Nat} {top : Nat} : ∀ k l e, e ∈ ordL X top k l → e ∈ l
  | 0, _, _, h => h
  | k + 1, l, e, h => ordL_mem k l e (splL_mem h)
theorem sh_u : ∀ k, k < 32 → (((nI k).toUInt32 &&& Int32.toUInt32 31).toBitVec % 32).toNat = k := by decide +kernel
theorem sh_s : ∀ k, k < 32 → ((nI k &&& 31).toBitVec.smod 32).toNat = k := by decide +kernel
theorem bit_u {x s : Nat} (hx : x < 1024) (hs : s < 32) : ((nI x).toUInt32 >>> ((nI s).toUInt32 &&& Int32.toUInt32 31)).toInt32 &&& (1 : Int32) = nI (x / 2 ^ s % 2) := by
  have h1 : x / 2 ^ s ≤ x := Nat.div_le_self _ _
  rw [pk_ushrN (by omega) (nI s) s (sh_u s hs), pk_andN (by omega) 1 (by decide)]
theorem bit_s {x s : Nat} (hx : x < 1024) (hs : s < 32) : (nI x >>> (nI s &&& 31)) &&& (1 : Int32) = nI (x / 2 ^ s % 2) := by
  have h1 : x / 2 ^ s ≤ x := Nat.div_le_self _ _
  rw [pk_shrN (by omega) _ s (sh_s s hs), pk_andN (by omega) 1 (by decide)]
def bv (X : Nat → Nat) (s : Nat) (l : List Nat) (m : Nat) : Nat := X (l.getD m 0) / 2 ^ s % 2
def plL (S : Sh) (x y : Int32) : List Nat := ordL (sX S (vr S x)) (tp S x) y.toNatClampNeg (List.range (sL S (vr S x)))
def fB (S : Sh) (x y i : Int32) : Nat := if fP S x y = 0 then (if i < 0 then 1 else if nI (sL S (vr S x)) ≤ i then 1 else 0) else fP S x y
def fO (S : Sh) (x y i : Int32) : Nat := if fP S x y = 0 then (if i < 0 then 1 else if nI (sL S (vr S x)) < i then 1 else 0) else fP S x y
def sp_bit (S : Sh) (x1 x2 x3 : Int32) : Int32 × Sh := if fB S x1 x2 x3 = 0 then (nI (bv (sX S (vr S x1)) (tp S x1 - x2.toNatClampNeg) (plL S x1 x2) x3.toNatClampNeg), S) else tl S (fB S x1 x2 x3)
def sp_ones (S : Sh) (x1 x2 x3 : Int32) : Int32 × Sh := if fO S x1 x2 x3 = 0 then (nI (fold (fun m n => n + bv (sX S (vr S x1)) (tp S x1 - x2.toNatClampNeg) (plL S x1 x2) m) 0 x3.toNatClampNeg 0), S) else tl S (fO S x1 x2 x3)
theorem fB_le (S : Sh) (x y i : Int32) : fB S x y i ≤ 6 := by unfold fB; have := fP_le S x y; split <;> (try split) <;> (try split) <;> omega
theorem fO_le (S : Sh) (x y i : Int32) : fO S x y i ≤ 6 := by unfold fO; have := fP_le S x y; split <;> (try split) <;> (try split) <;> omega
theorem tp_le (S : Sh) (x : Int32) : tp S x ≤ 9 := by unfold tp; split <;> omega
section CPLANE
variable {C C0 : CS} {S : Sh} {X : Nat → Nat} {x1 x2 x3 x4 : Int32}
theorem lp_copy {post : CS → Prop} {A B : List Nat} (hl : A.length + B.length ≤ 400) (hp : ∀ C', SameX [] [5, 7] C0 C' → HoldsL X (cr C' 5) (A ++ B) → post C') : ∀ k m C, m + k = B.length → SameX [] [5, 7] C0 C → HoldsL X (cr C 5) (A ++ B.take m) → HoldsL X (cr C 7) B → w_X0_splitBy_68 post (k + 1) C (nI A.length) (nI B.length) (nI m) := by
  intro k
  induction k with
  | zero =>
    intro m C hm hs h5 h7
    rw [show m = B.length by omega, List.take_length] at h5
    exact ⟨fun _ => hp C hs h5, fun q => absurd (nI_le (by omega) (by omega)) q⟩
  | succ k ih =>
    intro m C hm hs h5 h7
    have hmB : m < B.length := by omega
    refine ⟨fun q => absurd q (nI_ge (by omega) (by omega)), fun _ => ⟨vin_nI (by omega) (by omega), ?_, ?_⟩⟩
    · rw [nI_add]; exact vin_nI (by omega) (by omega)
    · rw [nI_1, nI_add]
      refine ih (m + 1) _ (by omega) (hs.tr (SameX.r (by decide))) (fun j e hj => ?_) h7
      show upd (cr C 5) (nI (A.length + m)).toNatClampNeg (cr C 7 (nI m).toNatClampNeg) j = nI (X e)
      rw [tn_nI (by omega), tn_nI (by omega)]
      by_cases ej : j = A.length + m
      · subst ej
        rw [pk_us]
        rw [List.getElem?_append_right (by omega), Nat.add_sub_cancel_left, List.getElem?_take_of_lt (by omega)] at hj
        exact h7 m e hj
      · rw [pk_un ej]
        refine h5 j e ?_
        by_cases hjA : j < A.length
        · rw [List.getElem?_append_left hjA] at hj ⊢; exact hj
        · rw [List.getElem?_append_right (by omega)] at hj ⊢
          have hlt := (List.getElem?_eq_some_iff.mp hj).1
          rw [List.length_take] at hlt
          rw [List.getElem?_take_of_lt (by omega)] at hj ⊢
          exact hj
theorem lp_split {post : CS → Prop} {s : Nat} (hs32 : s < 32) (hX : ∀ e, X e < 1024) {L : Nat} (hL : L ≤ 400) (h3 : cz C0 3 = nI L) : ∀ (rest A B : List Nat) C, A.length + B.length + rest.length = L → SameX [] [5, 7] C0 C → HoldsL X (cr C 5) A → HoldsL X (cr C 7) B → (∀ m e, rest[m]? = some e → cr C 5 (A.length + B.length + m) = nI (X e)) → (∀ C', SameX [] [5, 7] C0 C' → HoldsL X (cr C' 5) ((A ++ rest.filter (fun e => !bitP X s e)) ++ (B ++ rest.filter (bitP X s))) → post C') → w_X0_splitBy_7 post (rest.length + 1) C (nI s) (nI A.length) (nI B.length) (nI (A.length + B.length)) := by
  intro rest
  induction rest with
  | nil =>
    intro A B C hlen hs h5 h7 hr hp
    have e3 : cz C 3 = nI L := (hs.1 3 (by simp)).trans h3
    simp only [List.length_nil, Nat.add_zero] at hlen
    refine ⟨fun _ => ⟨B.length + 1, ?_⟩, fun q => absurd (by rw [e3]; exact nI_le (by omega) (by omega)) q⟩
    exact lp_copy (C0 := C0) (X := X) (by omega) (fun C' hs' hh => hp C' hs' (by simpa using hh)) B.length 0 C (by omega) hs (by simpa using h5) h7
  | cons e rest ih =>
    intro A B C hlen hs h5 h7 hr hp
    have e3 : cz C 3 = nI L := (hs.1 3 (by simp)).trans h3
    rw [List.length_cons] at hlen
    have hv : cr C 5 (A.length + B.length) = nI (X e) := hr 0 e rfl
    have ebit : ((cr C 5 (nI (A.length + B.length)).toNatClampNeg).toUInt32 >>> ((nI s).toUInt32 &&& Int32.toUInt32 31)).toInt32 &&& (1 : Int32) = nI (X e / 2 ^ s % 2) := by rw [tn_nI (by omega), hv, bit_u (hX e) hs32]
    have hb2 : X e / 2 ^ s % 2 < 2 := Nat.mod_lt _ (by omega)
    refine ⟨fun q => absurd q (by rw [e3]; exact nI_ge (by omega) (by omega)), fun _ => ⟨vin_nI (by omega) (by omega), fun q => ⟨vin_nI (by omega) (by omega), ?_⟩, fun q => ⟨vin_nI (by omega) (by omega), ?_⟩⟩⟩
    · rw [ebit, show (0 : Int32) = nI 0 from rfl, nI_eq (by omega) (by omega)] at q
      have hb : bitP X s e = true := by unfold bitP; simp; omega
      show w_X0_splitBy_7 post (rest.length + 1) (cru C 7 (upd (cr C 7) (nI B.length).toNatClampNeg (cr C 5 (nI (A.length + B.length)).toNatClampNeg))) (nI s) (nI A.length) (nI B.length + 1) (nI (A.length + B.length) + 1)
      rw [tn_nI (by omega), tn_nI (by omega), hv, nI_1, nI_1]
      have := ih A (B ++ [e]) (cru C 7 (upd (cr C 7) B.length (nI (X e)))) (by rw [List.length_append, List.length_singleton]; omega) (hs.tr (SameX.r (by decide))) h5 (fun m g hg => ?_) (fun m g hg => ?_) (fun C' hs' hh => hp C' hs' ?_)
      · rw [List.length_append, List.length_singleton, ← Nat.add_assoc] at this
        exact this
      · show upd (cr C 7) B.length (nI (X e)) m = nI (X g)
        by_cases em : m = B.length
        · subst em
          rw [List.getElem?_append_right (by omega), Nat.sub_self] at hg
          cases hg
          rw [pk_us]
        · rw [pk_un em]
          have hlt := (List.getElem?_eq_some_iff.mp hg).1
          rw [List.length_append, List.length_singleton] at hlt
          rw [List.getElem?_append_left (by omega)] at hg
          exact h7 m g hg
      · have := hr (m + 1) g (by rw [List.getElem?_cons_succ]; exact hg)
        rw [List.length_append, List.length_singleton, show A.length + (B.length + 1) + m = A.length + B.length + (m + 1) by omega]
        exact this
      · simp only [List.filter_cons, hb, Bool.not_true, if_true, Bool.false_eq_true, if_false]
        simpa using hh
    · rw [ebit, show (0 : Int32) = nI 0 from rfl, nI_eq (by omega) (by omega)] at q
      have hb : bitP X s e = false := by unfold bitP; simp; omega
      show w_X0_splitBy_7 post (rest.length + 1) (cru C 5 (upd (cr C 5) (nI A.length).toNatClampNeg (cr C 5 (nI (A.length + B.length)).toNatClampNeg))) (nI s) (nI A.length + 1) (nI B.length) (nI (A.length + B.length) + 1)
      rw [tn_nI (by omega), tn_nI (by omega), hv, nI_1, nI_1]
      have := ih (A ++ [e]) B (cru C 5 (upd (cr C 5) A.length (nI (X e)))) (by rw [List.length_append, List.length_singleton]; omega) (hs.tr (SameX.r (by decide))) (fun m g hg => ?_) h7 (fun m g hg => ?_) (fun C' hs' hh => hp C' hs' ?_)
      · rw [List.length_append, List.length_singleton, show A.length + 1 + B.length = A.length + B.length + 1 by omega] at this
        exact this
      · show upd (cr C 5) A.length (nI (X e)) m = nI (X g)
        by_cases em : m = A.length
        · subst em
          rw [List.getElem?_append_right (by omega), Nat.sub_self] at hg
          cases hg
          rw [pk_us]
        · rw [pk_un em]
          have hlt := (List.getElem?_eq_some_iff.mp hg).1
          rw [List.length_append, List.length_singleton] at hlt
          rw [List.getElem?_append_left (by omega)] at hg
          exact h5 m g hg
      · show upd (cr C 5) A.length (nI (X e)) ((A ++ [e]).length + B.length + m) = nI (X g)
        have := hr (m + 1) g (by rw [List.getElem?_cons_succ]; exact hg)
        rw [List.length_append, List.length_singleton, pk_un (by omega), show A.length + 1 + B.length + m = A.length + B.length + (m + 1) by omega]
        exact this
      · simp only [List.filter_cons, hb, Bool.not_false, if_true, Bool.false_eq_true, if_false]
        simpa using hh
theorem pc_split {post : CS → Prop} {s : Nat} (hs32 : s < 32) (hX : ∀ e, X e < 1024) {l : List Nat} (hL : l.length ≤ 400) (h3 : cz C 3 = nI l.length) (h5 : HoldsL X (cr C 5) l) (hp : ∀ C', SameX [] [5, 7] C C' → HoldsL X (cr C' 5) (splL (bitP X s) l) → post C') : w_X0_splitBy post C (nI s) := by
  refine ⟨l.length + 1, ?_⟩
  exact lp_split (C0 := C) hs32 hX hL h3 l [] [] C (by simp) SameX.rf (fun m e h => by simp at h) (fun m e h => by simp at h) (fun m e h => by simpa using h5 m e h) (fun C' hs hh => hp C' hs (by simpa [splL] using hh))
theorem lp_planes {post : Int32 → CS → Prop} {top pl : Nat} (htop : top ≤ 9) (hpl : pl ≤ top) (hX : ∀ e, X e < 1024) {l0 : List Nat} (hL : l0.length ≤ 400) (h3 : cz C0 3 = nI l0.length) (hp : ∀ C', SameX [] [5, 7] C0 C' → HoldsL X (cr C' 5) (ordL X top pl l0) → post (nI (top - pl)) C') : ∀ k ab C, ab + k = pl → SameX [] [5, 7] C0 C → HoldsL X (cr C 5) (ordL X top ab l0) → w_X3_layOutPlane_22 post (k + 1) C (nI pl) (nI top) (nI ab) := by
  intro k
  induction k with
  | zero =>
    intro ab C hab hs h5
    have e : ab = pl := by omega
    subst e
    refine ⟨fun _ => ?_, fun q => absurd (nI_le (by omega) (by omega)) q⟩
    rw [pk_sub hpl]; exact hp C hs h5
  | succ k ih =>
    intro ab C hab hs h5
    refine ⟨fun q => absurd q (nI_ge (by omega) (by omega)), fun _ => ?_⟩
    rw [pk_sub (by omega)]
    refine pc_split (l := ordL X top ab l0) (by omega) hX (by rw [ordL_len]; exact hL) (by rw [ordL_len, hs.1 3 (by simp)]; exact h3) h5 (fun C' hs' hh => ?_)
    rw [nI_1]
    exact ih (ab + 1) C' (by omega) (hs.tr hs') hh
/-- values as far as they are there -/
def cutX (X : Nat → Nat) (L : Nat) : Nat → Nat := fun e => if e < L then X e else 0
theorem ordL_cut {X : Nat → Nat} {L top : Nat} : ∀ k l, (∀ e, e ∈ l → e < L) → ordL (cutX X L) top k l = ordL X top k l
  | 0, _, _ => rfl
  | k + 1, l, h => by
    rw [ordL, ordL, ordL_cut k l h]
    unfold splL
    have e1 : ∀ e, e ∈ ordL X top k l → bitP (cutX X L) (top - k) e = bitP X (top - k) e := fun e he => by
      unfold bitP cutX
      rw [if_pos (h e (ordL_mem k l e he))]
    rw [List.filter_congr (fun e he => by rw [e1 e he]), List.filter_congr (q := bitP X (top - k)) (fun e he => e1 e he)]
theorem cutX_lt {S : Sh} (hI : InvS S) {v : Nat} (hv : v < sV S) : ∀ e, cutX (sX S v) (sL S v) e < 1024 := fun e => by
  unfold cutX
  by_cases h : e < sL S v
  · rw [if_pos h]; exact hI.2.2.2.2.2.2.1 v e hv h
  · rw [if_neg h]; omega
theorem HoldsL_cut {X : Nat → Nat} {L : Nat} {f : Nat → Int32} {l : List Nat} (hl : ∀ e, e ∈ l → e < L) : HoldsL (cutX X L) f l ↔ HoldsL X f l := by
  have e1 : ∀ m e, l[m]? = some e → cutX X L e = X e := fun m e h => by
    unfold cutX; rw [if_pos (hl e (List.mem_of_getElem? h))]
  exact ⟨fun h m e he => by rw [← e1 m e he]; exact h m e he, fun h m e he => by rw [e1 m e he]; exact h m e he⟩
theorem pc_plane {post : Int32 → CS → Prop} (hR : RelC C S) (h0 : fP S x1 x2 = 0) (h : ∀ C', RelC C' S → HoldsL (sX S (vr S x1)) (cr C' 5) (plL S x1 x2) → post (nI (tp S x1 - x2.toNatClampNeg)) C') : w_X3_layOutPlane post C x1 x2 := by
  obtain ⟨f0, f1, f2, f3⟩ := fP_0 h0
  obtain ⟨hi, a1, a2, a3, a4, a5, a6, a7, a8⟩ := hR.at f0
  have htp := tp_le S x1
  have h2 := tn_int f2
  rw [fa_lt, nI_toInt (by omega)] at f3
  have hpl : x2.toNatClampNeg ≤ tp S x1 := by omega
  refine pc_top hR f0 ⟨hi, fun w hw => ⟨_, hw.trans a1, a4, pc_lay4 hR a3 (fun C1 hs1 hz1 hF1 hR1 => ⟨x2.toNatClampNeg + 1, ?_⟩)⟩⟩
  rw [show x2 = nI x2.toNatClampNeg from (nI_tn f2).symm, tn_nI (by omega)]
  have hmem : ∀ e, e ∈ List.range (sL S (vr S x1)) → e < sL S (vr S x1) := fun e he => List.mem_range.mp he
  refine lp_planes (X := cutX (sX S (vr S x1)) (sL S (vr S x1))) (C0 := C1) (l0 := List.range (sL S (vr S x1))) htp hpl (cutX_lt hR.inv a3) (by rw [List.length_range]; exact a6) (by rw [List.length_range]; exact hz1) (fun C' hs' hh => h C' (hR1.same hs' (by decide)) ?_) x2.toNatClampNeg 0 C1 (by omega) SameX.rf ?_
  · rw [HoldsL_cut (fun e he => hmem e (ordL_mem _ _ e he)), ordL_cut _ _ hmem] at hh
    exact hh
  · show HoldsL _ _ (List.range _)
    rw [HoldsL_cut hmem]
    intro m e he
    have hlt := (List.getElem?_eq_some_iff.mp he).1
    rw [List.length_range] at hlt
    rw [List.getElem?_range hlt] at he
    cases he
    exact (hF1 m hlt).1
theorem plL_len : (plL S x1 x2).length = sL S (vr S x1) := by unfold plL; rw [ordL_len, List.length_range]
theorem plL_at {m : Nat} (hm : m < sL S (vr S x1)) : (plL S x1 x2)[m]? = some ((plL S x1 x2).getD m 0) ∧ (plL S x1 x2).getD m 0 < sL S (vr S x1) := by
  have hl : m < (plL S x1 x2).length := by rw [plL_len]; exact hm
  have e1 : (plL S x1 x2)[m]? = some ((plL S x1 x2).getD m 0) := by
    rw [List.getD_eq_getElem?_getD, List.getElem?_eq_getElem hl]; rfl
  exact ⟨e1, List.mem_range.mp (ordL_mem _ _ _ (List.mem_of_getElem? e1))⟩
theorem pc_bit {post : Int32 → CS → Prop} (hR : RelC C S) (h : ∀ C', RelC C' (sp_bit S x1 x2 x3).2 → post (sp_bit S x1 x2 x3).1 C') : w_X3_bit post C x1 x2 x3 := by
  have h33 : w_X3_bit_33 post C x1 x2 x3 (ng (fB S x1 x2 x3)) := by
    unfold sp_bit at h
    refine ⟨fun e => ?_, fun e => ?_⟩
    · have e := (ng_ne _ (fB_le S x1 x2 x3)).mp e
      rw [if_pos e] at h
      have hp : fP S x1 x2 = 0 := by
        unfold fB at e
        by_cases q : fP S x1 x2 = 0
        · exact q
        · rw [if_neg q] at e; exact e
      unfold fB at e
      rw [if_pos hp] at e
      obtain ⟨f0, f1, f2, f3⟩ := fP_0 hp
      obtain ⟨hi, a1, a2, a3, a4, a5, a6, a7, a8⟩ := hR.at f0
      have g0 : ¬ x3 < 0 := fun q => by rw [if_pos q] at e; omega
      have g1 : ¬ nI (sL S (vr S x1)) ≤ x3 := fun q => by rw [if_neg g0, if_pos q] at e; omega
      obtain ⟨j, rfl, hj⟩ := idx_nat a6 g0 g1
      have htp := tp_le S x1
      refine pc_plane hR hp (fun C' hR' hh => ⟨vin_nI (by omega) (by omega), ?_⟩)
      rw [tn_nI (by omega)] at h ⊢
      obtain ⟨e1, e2⟩ := plL_at (S := S) (x1 := x1) (x2 := x2) hj
      rw [hh j _ e1, bit_u (hR.inv.2.2.2.2.2.2.1 _ _ a3 e2) (by omega)]
      exact h C' hR'
    · have e2 : ¬ fB S x1 x2 x3 = 0 := fun q => e (by rw [q]; rfl)
      rw [if_neg e2] at h
      exact pc_told hR (fB_le S x1 x2 x3) e2 h
  refine pc_findPl hR ⟨fun e => ?_, fun e => ?_⟩
  · have e2 : ¬ fP S x1 x2 = 0 := fun q => e (by rw [q]; rfl)
    have : fB S x1 x2 x3 = fP S x1 x2 := by unfold fB; rw [if_neg e2]
    rw [this] at h33; exact h33
  · have hp := (ng_ne _ (fP_le S x1 x2)).mp e
    have hB : fB S x1 x2 x3 = (if x3 < 0 then 1 else if nI (sL S (vr S x1)) ≤ x3 then 1 else 0) := by unfold fB; rw [if_pos hp]
    obtain ⟨f0, f1, f2, f3⟩ := fP_0 hp
    obtain ⟨hi, a1, a2, a3, a4, a5, a6, a7, a8⟩ := hR.at f0
    refine ⟨fun g => ?_, fun g => ⟨hi, fun w hw => ⟨_, hw.trans a1, a4, fun g2 => ?_, fun g2 => ?_⟩⟩⟩
    · rw [if_pos g] at hB; rw [hB] at h33; exact h33
    · rw [a5] at g2
      rw [if_neg g, if_neg (Int32.not_le.mpr g2)] at hB; rw [hB] at h33; rw [hp]; exact h33
    · rw [a5] at g2
      rw [if_neg g, if_pos (Int32.not_lt.mp g2)] at hB; rw [hB] at h33; exact h33
theorem lp_ones {post : Int32 → CS → Prop} {s n : Nat} {l : List Nat} (hs : s < 32) (hn : n ≤ l.length) (hl : l.length ≤ 400) (hX : ∀ (m : Nat) (e : Nat), l[m]? = some e → X e < 1024) (h5 : HoldsL X (cr C 5) l) : ∀ k a r, a + k = n → post (nI (fold (fun m n => n + bv X s l m) a k r)) C → w_X0_countOnes_5 post (k + 1) C (nI s) (nI n) (nI r) (nI a) := by
  intro k
  induction k with
  | zero => intro a r ha h; exact ⟨fun _ => h, fun q => absurd (nI_le (by omega) (by omega)) q⟩
  | succ k ih =>
    intro a r ha h
    rw [fold] at h
    have e1 : l[a]? = some (l.getD a 0) := by rw [List.getD_eq_getElem?_getD, List.getElem?_eq_getElem (by omega)]; rfl
    refine ⟨fun q => absurd q (nI_ge (by omega) (by omega)), fun _ => ⟨vin_nI (by omega) (by omega), ?_⟩⟩
    rw [tn_nI (by omega), h5 a _ e1, bit_u (hX a _ e1) hs, nI_1, nI_add]
    exact ih (a + 1) _ (by omega) h
theorem pc_ones {post : Int32 → CS → Prop} (hR : RelC C S) (h : ∀ C', RelC C' (sp_ones S x1 x2 x3).2 → post (sp_ones S x1 x2 x3).1 C') : w_X3_ones post C x1 x2 x3 := by
  have h33 : w_X3_ones_33 post C x1 x2 x3 (ng (fO S x1 x2 x3)) := by
    unfold sp_ones at h
    refine ⟨fun e => ?_, fun e => ?_⟩
    · have e := (ng_ne _ (fO_le S x1 x2 x3)).mp e
      rw [if_pos e] at h
      have hp : fP S x1 x2 = 0 := by
        unfold fO at e
        by_cases q : fP S x1 x2 = 0
        · exact q
        · rw [if_neg q] at e; exact e
      unfold fO at e
      rw [if_pos hp] at e
      obtain ⟨f0, f1, f2, f3⟩ := fP_0 hp
      obtain ⟨hi, a1, a2, a3, a4, a5, a6, a7, a8⟩ := hR.at f0
      have g0 : ¬ x3 < 0 := fun q => by rw [if_pos q] at e; omega
      have g1 : ¬ nI (sL S (vr S x1)) < x3 := fun q => by rw [if_neg g0, if_pos q] at e; omega
      have h3 := tn_int g0
      rw [fa_lt, nI_toInt (by omega)] at g1
      have htp := tp_le S x1
      refine pc_plane hR hp (fun C' hR' hh => ⟨x3.toNatClampNeg + 1, ?_⟩)
      rw [show x3 = nI x3.toNatClampNeg from (nI_tn g0).symm, tn_nI (by omega)]
      refine lp_ones (X := sX S (vr S x1)) (l := plL S x1 x2) (by omega) (by rw [plL_len]; omega) (by rw [plL_len]; exact a6) (fun m e he => ?_) hh x3.toNatClampNeg 0 0 (by omega) (h C' hR')
      have hm := (List.getElem?_eq_some_iff.mp he).1
      rw [plL_len] at hm
      obtain ⟨e1, e2⟩ := plL_at (S := S) (x1 := x1) (x2 := x2) hm
      rw [he] at e1
      cases e1
      exact hR.inv.2.2.2.2.2.2.1 _ _ a3 e2
    · have e2 : ¬ fO S x1 x2 x3 = 0 := fun q => e (by rw [q]; rfl)
      rw [if_neg e2] at h
      exact pc_told hR (fO_le S x1 x2 x3) e2 h
  refine pc_findPl hR ⟨fun e => ?_, fun e => ?_⟩
  · have e2 : ¬ fP S x1 x2 = 0 := fun q => e (by rw [q]; rfl)
    have : fO S x1 x2 x3 = fP S x1 x2 := by unfold fO; rw [if_neg e2]
    rw [this] at h33; exact h33
  · have hp := (ng_ne _ (fP_le S x1 x2)).mp e
    have hB : fO S x1 x2 x3 = (if x3 < 0 then 1 else if nI (sL S (vr S x1)) < x3 then 1 else 0) := by unfold fO; rw [if_pos hp]
    obtain ⟨f0, f1, f2, f3⟩ := fP_0 hp
    obtain ⟨hi, a1, a2, a3, a4, a5, a6, a7, a8⟩ := hR.at f0
    refine ⟨fun g => ?_, fun g => ⟨hi, fun w hw => ⟨_, hw.trans a1, a4, fun g2 => ?_, fun g2 => ?_⟩⟩⟩
    · rw [if_pos g] at hB; rw [hB] at h33; exact h33
    · rw [a5] at g2
      rw [if_neg g, if_neg (Int32.not_lt.mpr g2)] at hB; rw [hB] at h33; rw [hp]; exact h33
    · rw [a5] at g2
      rw [if_neg g, if_pos (Int32.not_le.mp g2)] at hB; rw [hB] at h33; exact h33
end CPLANE
