/-! ===== what both answer: pure functions of the abstract shelf ===== -/
def fold {α : Type} (f : Nat → α → α) : Nat → Nat → α → α
  | _, 0, r => r
  | a, k + 1, r => fold f (a + 1) k (f a r)
theorem fold_congr {α : Type} {f g : Nat → α → α} : ∀ {k a : Nat} {r : α}, (∀ i r, a ≤ i → i < a + k → f i r = g i r) → fold f a k r = fold g a k r
  | 0, _, _, _ => rfl
  | k + 1, a, r, h => by
    rw [fold, fold, h a r (Nat.le_refl _) (by omega)]
    exact fold_congr (fun i r h1 h2 => h i r (by omega) (by omega))
def tl (S : Sh) (k : Nat) : Int32 × Sh := (ng k, tellS S k)
def noV (S : Sh) (x : Int32) : Bool := decide (x < 0) || decide (nI (sV S) ≤ x)
def noP (x : Int32) : Bool := decide (x < 0) || decide ((12 : Int32) ≤ x)
def noX (x : Int32) : Bool := decide (x < 0) || decide ((1023 : Int32) < x)
def sp_version (S : Sh) (x1 x2 : Int32) : Int32 × Sh := if noV S x1 = true then tl S 1 else if noP x2 = true then tl S 1 else (nI (sL S x1.toNatClampNeg), putS S x2.toNatClampNeg 1 x1.toNatClampNeg)
def sp_about (S : Sh) (x1 x2 : Int32) : Int32 × Sh := if noV S x1 = true then tl S 1 else if x2 = 0 then (nI (sL S x1.toNatClampNeg), S) else if x2 = 1 then (if x1.toNatClampNeg = 0 then tl S 6 else (nI (sP S x1.toNatClampNeg), S)) else if x2 = 2 then (nI (chl S x1.toNatClampNeg), S) else if x2 = 3 then (frk S x1.toNatClampNeg, S) else if x2 = 4 then (nI (dep S x1.toNatClampNeg), S) else tl S 1
def cmF (q : Nat → Nat) : Nat → Nat → Nat → Nat
  | 0, _, _ => 0
  | k + 1, v, u => if v = u then v else if u < v then cmF q k (q v) u else cmF q k v (q u)
def sp_common (S : Sh) (x1 x2 : Int32) : Int32 × Sh := if noV S x1 = true then tl S 1 else if noV S x2 = true then tl S 1 else (nI (cmF (sP S) (x1.toNatClampNeg + x2.toNatClampNeg + 1) x1.toNatClampNeg x2.toNatClampNeg), S)
def sp_versions (S : Sh) (x1 : Int32) : Int32 × Sh := (if x1 = 0 then nI (sV S) else nI (sM S), S)
/-- is every value of a version below 256 -/
def small (S : Sh) (v : Nat) : Bool := fold (fun i r => r && decide (sX S v i < 256)) 0 (sL S v) true
def sp_seal (S : Sh) (x1 x2 x3 : Int32) : Int32 × Sh := if fL S x1 = 0 then (if noP x2 = true then tl S 1 else if x3 = 0 then (nI (sL S (vr S x1)), putS S x2.toNatClampNeg 2 (vr S x1)) else if small S (vr S x1) = true then (nI (sL S (vr S x1)), putS S x2.toNatClampNeg 3 (vr S x1)) else tl S 1) else tl S (fL S x1)
def sp_put (S : Sh) (x1 x2 : Int32) : Int32 × Sh := if fL S x1 = 0 then (if noP x2 = true then tl S 1 else (nI (sK S x1.toNatClampNeg - 1), putS S x2.toNatClampNeg (sK S x1.toNatClampNeg) (vr S x1))) else tl S (fL S x1)
def sp_take (S : Sh) (x1 : Int32) : Int32 × Sh := if noP x1 = true then tl S 1 else (0, putS S x1.toNatClampNeg 0 0)
def sp_row (S : Sh) (x1 x2 : Int32) : Int32 × Sh := if fL S x1 = 0 then (if x2 = 0 then (nI (sK S x1.toNatClampNeg - 1), S) else if x2 = 1 then (nI (sL S (vr S x1)), S) else if x2 = 2 then (if sK S x1.toNatClampNeg = 1 then (nI (vr S x1), S) else tl S 3) else tl S 1) else tl S (fL S x1)
def sp_at (S : Sh) (x1 x2 : Int32) : Int32 × Sh := if fI S x1 x2 = 0 then (nI (sX S (vr S x1) x2.toNatClampNeg), S) else tl S (fI S x1 x2)
def sp_weight (S : Sh) (x1 x2 : Int32) : Int64 × Sh := if fI S x1 x2 = 0 then ((sW S (vr S x1) x2.toNatClampNeg).toInt64, S) else (0, tellS S (fI S x1 x2))
def sp_step (S : Sh) (x1 : Int32) : Int32 × Sh := if x1 < 0 then tl S 6 else if nI (sN S) ≤ x1 then tl S 6 else (sT S x1.toNatClampNeg, S)
def sp_found (S : Sh) (x1 : Int32) : Int32 × Sh := if (-1 : Int32) < x1 then tl S 1 else if x1 < (-6 : Int32) then tl S 1 else (sF S (-x1).toNatClampNeg, S)
/-- spans -/
def sa (a : Int32) : Nat := a.toNatClampNeg
def cntF (p : Nat → Bool) (a k : Nat) : Nat := fold (fun i n => if p i then n + 1 else n) a k 0
def sp_span (S : Sh) (x1 x2 x3 : Int32) (r : Int32 × Sh) : Int32 × Sh := if fS S x1 x2 x3 = 0 then r else tl S (fS S x1 x2 x3)
def sp_rank (S : Sh) (x1 x2 x3 x4 : Int32) : Int32 × Sh := sp_span S x1 x2 x3 (nI (cntF (fun i => decide (nI (sX S (vr S x1) i) < x4)) (sa x2) (sa x3 - sa x2)), S)
def sp_between (S : Sh) (x1 x2 x3 x4 x5 : Int32) : Int32 × Sh := sp_span S x1 x2 x3 (nI (cntF (fun i => decide (x4 ≤ nI (sX S (vr S x1) i)) && decide (nI (sX S (vr S x1) i) ≤ x5)) (sa x2) (sa x3 - sa x2)), S)
def enc (S : Sh) (n : Nat) : Int32 × Sh := if n = 1024 then tl S 6 else (nI n, S)
def leF (X : Nat → Nat) (low : Int32) (a k : Nat) : Nat := fold (fun i n => if low ≤ nI (X i) ∧ X i < n then X i else n) a k 1024
def geF (X : Nat → Nat) (high : Int32) (a k : Nat) : Nat := fold (fun i n => if nI (X i) ≤ high ∧ (n = 1024 ∨ n < X i) then X i else n) a k 1024
def sp_next (S : Sh) (x1 x2 x3 x4 : Int32) : Int32 × Sh := sp_span S x1 x2 x3 (enc S (leF (sX S (vr S x1)) x4 (sa x2) (sa x3 - sa x2)))
def sp_prior (S : Sh) (x1 x2 x3 x4 : Int32) : Int32 × Sh := sp_span S x1 x2 x3 (enc S (geF (sX S (vr S x1)) x4 (sa x2) (sa x3 - sa x2)))
def sp_sum (S : Sh) (x1 x2 x3 x4 : Int32) : Int64 × Sh := if fS S x1 x2 x3 = 0 then (fold (fun i n => if nI (sX S (vr S x1) i) < x4 then n + (sW S (vr S x1) i).toInt64 else n) (sa x2) (sa x3 - sa x2) (0 : Int64), S) else (0, tellS S (fS S x1 x2 x3))
/-- how often a value is in a span -/
def cnt (X : Nat → Nat) (a k v : Nat) : Nat := cntF (fun i => decide (X i = v)) a k
/-- the first number below n that p holds of, or n -/
def fstF (p : Nat → Bool) (n : Nat) : Nat := fa_first p n
def sp_half (S : Sh) (x1 x2 x3 : Int32) : Int32 × Sh := sp_span S x1 x2 x3 (enc S (fstF (fun v => decide (sa x3 - sa x2 < 2 * cnt (sX S (vr S x1)) (sa x2) (sa x3 - sa x2) v)) 1024))
def sp_distinct (S : Sh) (x1 x2 x3 : Int32) : Int32 × Sh := sp_span S x1 x2 x3 (nI (cntF (fun v => decide (cnt (sX S (vr S x1)) (sa x2) (sa x3 - sa x2) v ≠ 0)) 0 1024), S)
