/-! ===== numbers ===== -/
theorem tn_int {x : Int32} (h : ¬ x < 0) : (x.toNatClampNeg : Int) = x.toInt := by
  rw [fa_lt] at h
  have h0 : (0 : Int32).toInt = 0 := rfl
  show ((x.toInt.toNat : Nat) : Int) = x.toInt
  omega
theorem nI_tn {x : Int32} (h : ¬ x < 0) : nI x.toNatClampNeg = x := by
  have h1 := tn_int h
  have h2 := fb_rng x
  rw [fa_eq, nI_toInt (by omega)]
  exact h1
theorem tn_nI {n : Nat} (h : n < 2147483648) : (nI n).toNatClampNeg = n := nI_clamp h
theorem vin {x L : Int32} {N : Nat} (hL : L.toInt = N) (h0 : ¬ x < 0) (h1 : ¬ L ≤ x) : vp_in x N := by
  rw [vp_in_iff]
  rw [fa_lt] at h0
  rw [fa_le, hL] at h1
  have h2 : (0 : Int32).toInt = 0 := rfl
  omega
theorem vin_tn {x : Int32} {N : Nat} (h : vp_in x N) : x.toNatClampNeg < N ∧ ¬ x < 0 := by
  rw [vp_in_iff] at h
  have h0 : ¬ x < 0 := by rw [fa_lt]; have h2 : (0 : Int32).toInt = 0 := rfl; omega
  have := tn_int h0
  exact ⟨by omega, h0⟩
theorem vin_nI {n N : Nat} (h : n < N) (hN : N < 2147483648) : vp_in (nI n) N := vp_in_nI h hN
def ng (k : Nat) : Int32 := -(nI k)
theorem ng_ne : ∀ k, k ≤ 6 → (ng k = 0 ↔ k = 0) := by decide +kernel
theorem ng_in : ∀ k, k ≤ 6 → k ≠ 0 → ¬ (-1 : Int32) < ng k ∧ ¬ ng k < (-6 : Int32) ∧ vp_in (-(ng k)) 7 ∧ Int32.toNatClampNeg (-(ng k)) = k ∧ ¬ 0 ≤ ng k ∧ ng k < 0 := by
  have h : ∀ k, k ≤ 6 → k ≠ 0 → ¬ (-1 : Int32) < ng k ∧ ¬ ng k < (-6 : Int32) ∧ ¬ (-(ng k) < 0 ∨ 7 ≤ (-(ng k)).toNatClampNeg) ∧ Int32.toNatClampNeg (-(ng k)) = k ∧ ¬ 0 ≤ ng k ∧ ng k < 0 := by decide +kernel
  exact h
/-! ===== the abstract shelf ===== -/
abbrev Sh : Type := Nat × Nat × (Nat → Nat) × (Nat → Nat) × (Nat → Nat → Nat) × (Nat → Nat → Int32) × (Nat → Nat) × (Nat → Nat) × (Nat → Int32) × Nat × (Nat → Int32)
def sV (S : Sh) : Nat := S.1
def sM (S : Sh) : Nat := S.2.1
def sP (S : Sh) : Nat → Nat := S.2.2.1
def sL (S : Sh) : Nat → Nat := S.2.2.2.1
def sX (S : Sh) : Nat → Nat → Nat := S.2.2.2.2.1
def sW (S : Sh) : Nat → Nat → Int32 := S.2.2.2.2.2.1
def sK (S : Sh) : Nat → Nat := S.2.2.2.2.2.2.1
def sR (S : Sh) : Nat → Nat := S.2.2.2.2.2.2.2.1
def sT (S : Sh) : Nat → Int32 := S.2.2.2.2.2.2.2.2.1
def sN (S : Sh) : Nat := S.2.2.2.2.2.2.2.2.2.1
def sF (S : Sh) : Nat → Int32 := S.2.2.2.2.2.2.2.2.2.2
def mkS (v m : Nat) (q l : Nat → Nat) (x : Nat → Nat → Nat) (w : Nat → Nat → Int32) (k r : Nat → Nat) (t : Nat → Int32) (n : Nat) (f : Nat → Int32) : Sh := (v, m, q, l, x, w, k, r, t, n, f)
def tellS (S : Sh) (k : Nat) : Sh := mkS (sV S) (sM S) (sP S) (sL S) (sX S) (sW S) (sK S) (sR S) (sT S) (sN S) (upd (sF S) k (sF S k + 1))
/-- place j gets a row of kind k, that of version v -/
def putS (S : Sh) (j k v : Nat) : Sh := mkS (sV S) (sM S) (sP S) (sL S) (sX S) (sW S) (va_up (sK S) j k) (va_up (sR S) j v) (sT S) (sN S) (sF S)
def stepS (S : Sh) (t : Nat → Int32) (n : Nat) : Sh := mkS (sV S) (sM S) (sP S) (sL S) (sX S) (sW S) (sK S) (sR S) t n (sF S)
/-- a new version: its parent, length, values, weights, places made -/
def newS (S : Sh) (q l : Nat) (x : Nat → Nat) (w : Nat → Int32) (d : Nat) : Sh := mkS (sV S + 1) (sM S + d) (va_up (sP S) (sV S) q) (va_up (sL S) (sV S) l) (va_up (sX S) (sV S) x) (va_up (sW S) (sV S) w) (sK S) (sR S) (sT S) (sN S) (sF S)
def chl (S : Sh) (v : Nat) : Nat := fb_ct (fun u => decide (1 ≤ u ∧ sP S u = v)) (sV S)
def frk (S : Sh) (v : Nat) : Int32 := if fb_ct (fun u => decide (1 ≤ u ∧ sP S u = sP S v)) v = 0 then 0 else 1
def depF (q : Nat → Nat) : Nat → Nat → Nat
  | 0, _ => 1
  | k + 1, v => if v = 0 then 1 else depF q k (q v) + 1
def dep (S : Sh) (v : Nat) : Nat := depF (sP S) v v
/-- what always holds of it -/
def InvS (S : Sh) : Prop := 1 ≤ sV S ∧ sV S ≤ 500 ∧ sM S ≤ 20000 ∧ sL S 0 = 0 ∧ (∀ v, v < sV S → sL S v ≤ 400) ∧ (∀ v, v < sV S → v ≠ 0 → sP S v < v) ∧ (∀ v i, v < sV S → i < sL S v → sX S v i < 1024) ∧ (∀ j, j < 12 → sK S j ≤ 3 ∧ (sK S j ≠ 0 → sR S j < sV S) ∧ (sK S j = 3 → ∀ i, i < sL S (sR S j) → sX S (sR S j) i < 256)) ∧ sN S ≤ 10
/-! ===== the class holds it ===== -/
def RV (n : Nat) (f : Nat → Nat → Int32) (q : Nat → Option Nat) (k : Nat → Nat) (g h : Nat → Nat → Int32) (S : Sh) (ke : Nat → Nat) : Prop := ∀ v, v < n → f v 0 = nI v ∧ q v = (if v = 0 then none else some (sP S v)) ∧ f v 2 = nI (ke v) ∧ f v 3 = nI (sL S v) ∧ f v 6 = frk S v ∧ f v 7 = nI (dep S v) ∧ f v 8 = nI (chl S v) ∧ ke v ≤ sL S v ∧ k v = sL S v - ke v ∧ (∀ j, j < k v → g v j = nI (sX S v (ke v + j)) ∧ h v j = sW S v (ke v + j)) ∧ (v ≠ 0 → ke v ≤ sL S (sP S v) ∧ ∀ i, i < ke v → sX S v i = sX S (sP S v) i ∧ sW S v i = sW S (sP S v) i) ∧ (v = 0 → ke v = 0)
def RC (z0 z1 z2 : Int32) (r3 r15 r16 : Nat → Int32) (o1 o2 : Nat → Option Nat) (n : Nat) (f : Nat → Nat → Int32) (q : Nat → Option Nat) (k : Nat → Nat) (g h : Nat → Nat → Int32) (S : Sh) : Prop :=
  InvS S ∧ n = sV S ∧ z0 = nI (sV S) ∧ z1 = nI (sM S) ∧ z2 = nI (sN S) ∧ (∀ j, j < 12 → (sK S j = 0 → o2 j = none) ∧ (sK S j ≠ 0 → o2 j = some (sR S j) ∧ r3 j = nI (sK S j - 1))) ∧ (∀ i, i < n → o1 i = some i) ∧ (∀ i v, o1 i = some v → v < n) ∧ (∀ i v, o2 i = some v → v < n) ∧ (∀ i, i < sN S → r15 i = sT S i) ∧ (∀ i, i < 7 → r16 i = sF S i) ∧ ∃ ke, RV n f q k g h S ke
def RelC (C : CS) (S : Sh) : Prop := RC (cz C 0) (cz C 1) (cz C 2) (cr C 3) (cr C 15) (cr C 16) (co C 1) (co C 2) (cn C) (cf C) (cp C) (ck C) (cv C) (cw C) S
/-! ===== the reference holds it ===== -/
def RM (z0 z6 z7 z14 : Int32) (r1 r2 r3 r4 r5 r8 r9 r10 r11 r12 r13 r15 : Nat → Int32) (S : Sh) : Prop :=
  InvS S ∧ z0 = nI (sV S) ∧ z7 = nI (sM S) ∧ z14 = nI (sN S) ∧ (∃ (en : Nat) (fr : Nat → Nat), z6 = nI en ∧ en + 400 ≤ 400 * sV S ∧ ∀ v, v < sV S → r1 v = nI (fr v) ∧ fr v + sL S v ≤ en ∧ ∀ i, i < sL S v → r4 (fr v + i) = nI (sX S v i) ∧ r5 (fr v + i) = sW S v i) ∧ (∀ v, v < sV S → r2 v = nI (sL S v) ∧ r3 v = (if v = 0 then -1 else nI (sP S v))) ∧ (∀ j, j < 12 → r8 j = nI (sK S j) ∧ (sK S j = 1 → r9 j = nI (sR S j)) ∧ (2 ≤ sK S j → r10 j = nI (sL S (sR S j)) ∧ ∀ i, i < sL S (sR S j) → r11 (400 * j + i) = nI (sX S (sR S j) i) ∧ r12 (400 * j + i) = sW S (sR S j) i)) ∧ (∀ i, i < sN S → r13 i = sT S i) ∧ (∀ i, i < 7 → r15 i = sF S i)
def RelM (M : MS) (S : Sh) : Prop := RM (mz M 0) (mz M 6) (mz M 7) (mz M 14) (mr M 1) (mr M 2) (mr M 3) (mr M 4) (mr M 5) (mr M 8) (mr M 9) (mr M 10) (mr M 11) (mr M 12) (mr M 13) (mr M 15) S
/-! ===== findings, as both ask for them ===== -/
def fL (S : Sh) (x : Int32) : Nat := if x < 0 then 1 else if (12 : Int32) ≤ x then 1 else if sK S x.toNatClampNeg = 0 then 2 else 0
def fG (S : Sh) (x : Int32) : Nat := if fL S x = 0 then (if sK S x.toNatClampNeg = 1 then 0 else 3) else fL S x
def vr (S : Sh) (x : Int32) : Nat := sR S x.toNatClampNeg
def fI (S : Sh) (x i : Int32) : Nat := if fL S x = 0 then (if i < 0 then 1 else if nI (sL S (vr S x)) ≤ i then 1 else 0) else fL S x
def fS (S : Sh) (x a b : Int32) : Nat := if fL S x = 0 then (if b < a then 4 else if a < 0 then 1 else if nI (sL S (vr S x)) < b then 1 else 0) else fL S x
def tp (S : Sh) (x : Int32) : Nat := if sK S x.toNatClampNeg = 3 then 7 else 9
def fP (S : Sh) (x y : Int32) : Nat := if fL S x = 0 then (if sK S x.toNatClampNeg = 1 then 3 else if y < 0 then 1 else if nI (tp S x) < y then 1 else 0) else fL S x
theorem fL_le (S : Sh) (x : Int32) : fL S x ≤ 6 := by unfold fL; split <;> (try split) <;> (try split) <;> omega
theorem fG_le (S : Sh) (x : Int32) : fG S x ≤ 6 := by unfold fG; have := fL_le S x; split <;> (try split) <;> omega
theorem fI_le (S : Sh) (x i : Int32) : fI S x i ≤ 6 := by unfold fI; have := fL_le S x; split <;> (try split) <;> (try split) <;> omega
theorem fS_le (S : Sh) (x a b : Int32) : fS S x a b ≤ 6 := by unfold fS; have := fL_le S x; split <;> (try split) <;> (try split) <;> (try split) <;> omega
theorem fP_le (S : Sh) (x y : Int32) : fP S x y ≤ 6 := by unfold fP; have := fL_le S x; split <;> (try split) <;> (try split) <;> (try split) <;> omega
/-- a place that holds a row -/
theorem fL_0 {S : Sh} {x : Int32} (h : fL S x = 0) : vp_in x 12 ∧ x.toNatClampNeg < 12 ∧ sK S x.toNatClampNeg ≠ 0 := by
  unfold fL at h
  by_cases h0 : x < 0
  · rw [if_pos h0] at h; omega
  · rw [if_neg h0] at h
    by_cases h1 : (12 : Int32) ≤ x
    · rw [if_pos h1] at h; omega
    · rw [if_neg h1] at h
      have hv : vp_in x 12 := vin rfl h0 h1
      by_cases h2 : sK S x.toNatClampNeg = 0
      · rw [if_pos h2] at h; omega
      · exact ⟨hv, (vin_tn hv).1, h2⟩
theorem fG_0 {S : Sh} {x : Int32} (h : fG S x = 0) : fL S x = 0 ∧ sK S x.toNatClampNeg = 1 := by
  unfold fG at h
  by_cases h0 : fL S x = 0
  · rw [if_pos h0] at h
    by_cases h1 : sK S x.toNatClampNeg = 1
    · exact ⟨h0, h1⟩
    · rw [if_neg h1] at h; omega
  · rw [if_neg h0] at h; exact absurd h h0
theorem fI_0 {S : Sh} {x i : Int32} (h : fI S x i = 0) : fL S x = 0 ∧ ¬ i < 0 ∧ ¬ nI (sL S (vr S x)) ≤ i := by
  unfold fI at h
  by_cases h0 : fL S x = 0
  · rw [if_pos h0] at h
    by_cases h1 : i < 0
    · rw [if_pos h1] at h; omega
    · rw [if_neg h1] at h
      by_cases h2 : nI (sL S (vr S x)) ≤ i
      · rw [if_pos h2] at h; omega
      · exact ⟨h0, h1, h2⟩
  · rw [if_neg h0] at h; exact absurd h h0
theorem fS_0 {S : Sh} {x a b : Int32} (h : fS S x a b = 0) : fL S x = 0 ∧ ¬ b < a ∧ ¬ a < 0 ∧ ¬ nI (sL S (vr S x)) < b := by
  unfold fS at h
  by_cases h0 : fL S x = 0
  · rw [if_pos h0] at h
    by_cases h1 : b < a
    · rw [if_pos h1] at h; omega
    · rw [if_neg h1] at h
      by_cases h2 : a < 0
      · rw [if_pos h2] at h; omega
      · rw [if_neg h2] at h
        by_cases h3 : nI (sL S (vr S x)) < b
        · rw [if_pos h3] at h; omega
        · exact ⟨h0, h1, h2, h3⟩
  · rw [if_neg h0] at h; exact absurd h h0
theorem fP_0 {S : Sh} {x y : Int32} (h : fP S x y = 0) : fL S x = 0 ∧ sK S x.toNatClampNeg ≠ 1 ∧ ¬ y < 0 ∧ ¬ nI (tp S x) < y := by
  unfold fP at h
  by_cases h0 : fL S x = 0
  · rw [if_pos h0] at h
    by_cases h1 : sK S x.toNatClampNeg = 1
    · rw [if_pos h1] at h; omega
    · rw [if_neg h1] at h
      by_cases h2 : y < 0
      · rw [if_pos h2] at h; omega
      · rw [if_neg h2] at h
        by_cases h3 : nI (tp S x) < y
        · rw [if_pos h3] at h; omega
        · exact ⟨h0, h1, h2, h3⟩
  · rw [if_neg h0] at h; exact absurd h h0
/-- a span, as natural numbers -/
theorem span_nat {a b : Int32} {n : Nat} (hn : n ≤ 400) (h1 : ¬ b < a) (h2 : ¬ a < 0) (h3 : ¬ nI n < b) : ∃ i j : Nat, a = nI i ∧ b = nI j ∧ i ≤ j ∧ j ≤ n := by
  have ha := tn_int h2
  rw [fa_lt] at h1
  rw [fa_lt, nI_toInt (by omega)] at h3
  have hb0 : ¬ b < 0 := by rw [fa_lt] at h2 ⊢; have : (0 : Int32).toInt = 0 := rfl; omega
  have hb := tn_int hb0
  exact ⟨a.toNatClampNeg, b.toNatClampNeg, (nI_tn h2).symm, (nI_tn hb0).symm, by omega, by omega⟩
theorem idx_nat {i : Int32} {n : Nat} (hn : n ≤ 400) (h1 : ¬ i < 0) (h2 : ¬ nI n ≤ i) : ∃ j : Nat, i = nI j ∧ j < n := by
  have hi := tn_int h1
  rw [fa_le, nI_toInt (by omega)] at h2
  exact ⟨i.toNatClampNeg, (nI_tn h1).symm, by omega⟩
