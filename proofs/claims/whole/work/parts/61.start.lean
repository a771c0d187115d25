def S0r : Sh := mkS 1 0 (fun _ => 0) (fun _ => 0) (fun _ _ => 0) (fun _ _ => 0) (va_up (fun _ => 0) 0 1) (fun _ => 0) (fun _ => 0) 0 (fun _ => 0)
theorem inv0 : InvS S0r := by
  refine ⟨Nat.le_refl 1, by show 1 ≤ 500; omega, Nat.zero_le _, rfl, fun v _ => Nat.zero_le 400, fun v hv h0 => ?_, fun v i _ hi => absurd hi (Nat.not_lt_zero i), fun j hj => ?_, Nat.zero_le 10⟩
  · have : v < 1 := hv
    omega
  · show va_up (fun _ => 0) 0 1 j ≤ 3 ∧ (va_up (fun _ => 0) 0 1 j ≠ 0 → 0 < 1) ∧ (va_up (fun _ => 0) 0 1 j = 3 → ∀ i, i < 0 → 0 < 256)
    refine ⟨?_, fun _ => by omega, fun _ i hi => absurd hi (Nat.not_lt_zero i)⟩
    by_cases e : j = 0
    · subst e; rw [va_up_self]; omega
    · rw [va_up_ne _ _ e]; omega
theorem relM0 : RelM M0r S0r := by
  refine ⟨inv0, rfl, rfl, rfl, ⟨0, fun _ => 0, rfl, Nat.le_refl 400, fun v _ => ⟨rfl, Nat.le_refl 0, fun i hi => absurd hi (Nat.not_lt_zero i)⟩⟩, fun v hv => ?_, fun j hj => ?_, fun i hi => absurd hi (Nat.not_lt_zero i), fun i _ => rfl⟩
  · have hv : v < 1 := hv
    have e : v = 0 := by omega
    subst e
    exact ⟨rfl, rfl⟩
  · show upd (fun _ => 0) 0 1 j = nI (va_up (fun _ => 0) 0 1 j) ∧ (va_up (fun _ => 0) 0 1 j = 1 → (0 : Int32) = nI 0) ∧ (2 ≤ va_up (fun _ => 0) 0 1 j → (0 : Int32) = nI 0 ∧ ∀ i, i < 0 → (0 : Int32) = nI 0 ∧ (0 : Int32) = 0)
    refine ⟨?_, fun _ => rfl, fun _ => ⟨rfl, fun i hi => absurd hi (Nat.not_lt_zero i)⟩⟩
    by_cases e : j = 0
    · subst e; rw [va_up_self, pk_us]; rfl
    · rw [va_up_ne _ _ e, pk_un e]; rfl
theorem relC0 : RelC C0r S0r := by
  have o1 : ∀ i v, va_up (fun _ => none) 0 (some 0) i = some v → v < 1 := fun i v h => by
    by_cases e : i = 0
    · subst e; rw [va_up_self] at h; cases h; omega
    · rw [va_up_ne _ _ e] at h; cases h
  refine ⟨inv0, rfl, rfl, rfl, rfl, fun j hj => ?_, fun i hi => ?_, o1, o1, fun i hi => absurd hi (Nat.not_lt_zero i), fun i _ => rfl, fun _ => 0, fun v hv => ?_⟩
  · show (va_up (fun _ => 0) 0 1 j = 0 → va_up (fun _ => none) 0 (some 0) j = none) ∧ (va_up (fun _ => 0) 0 1 j ≠ 0 → va_up (fun _ => none) 0 (some 0) j = some 0 ∧ upd (fun _ => 0) 0 0 j = nI (va_up (fun _ => 0) 0 1 j - 1))
    by_cases e : j = 0
    · subst e; rw [va_up_self, va_up_self, pk_us]; exact ⟨fun q => by omega, fun _ => ⟨rfl, rfl⟩⟩
    · rw [va_up_ne _ _ e, va_up_ne _ _ e]; exact ⟨fun _ => rfl, fun q => absurd rfl q⟩
  · have hi : i < 1 := hi
    have e : i = 0 := by omega
    subst e
    rfl
  · have hv : v < 1 := hv
    have e : v = 0 := by omega
    subst e
    refine ⟨rfl, rfl, rfl, rfl, rfl, rfl, rfl, Nat.le_refl 0, rfl, fun j hj => absurd hj (Nat.not_lt_zero j), fun q => absurd rfl q, fun _ => rfl⟩
