/-! ===== root: powers ===== -/
theorem rpow2 {x v : Int64} {X V : Nat} (hx : x.toInt = X) (hX : X < 2000000) (hv : v.toInt = V) (hV : V < 1000000000000) : ∃ z8 z9, fX5_power x (2 : Int32) = some z8 ∧ fX9_power x (2 : Int32) = some z9 ∧ z9.toInt = ((X * X : Nat) : Int) ∧ (V < X * X ∧ (z8 = LOSTv ∨ v < z8) ∧ v < z9 ∨ ¬ V < X * X ∧ ¬ z8 = LOSTv ∧ ¬ v < z8 ∧ ¬ v < z9) := by
  have hXX : X * X ≤ 2000000 * 2000000 := Nat.mul_le_mul (by omega) (by omega)
  have em : x.toInt * x.toInt = ((X * X : Nat) : Int) := by rw [hx, Int.natCast_mul]
  have e9 : (x * x).toInt = ((X * X : Nat) : Int) := by rw [t64_mul (by rw [em]; omega) (by rw [em]; omega), em]
  obtain ⟨z8, h1, h2⟩ := power2_ok x
  refine ⟨z8, x * x, h1, rfl, e9, ?_⟩
  rw [Int64.lt_iff_toInt_lt, Int64.lt_iff_toInt_lt, e9, hv]
  rcases h2 with ⟨h2, h3⟩ | ⟨h2, h3⟩
  · rw [em] at h3
    rw [h3]
    have hl : ¬ z8 = LOSTv := fun e => by
      have := lost_toInt
      rw [e] at h3
      omega
    by_cases c : V < X * X
    · exact Or.inl ⟨c, Or.inr (by omega), by omega⟩
    · exact Or.inr ⟨c, hl, by omega, by omega⟩
  · have : 1000000 * 1000000 ≤ X * X := Nat.mul_le_mul (by omega) (by omega)
    exact Or.inl ⟨by omega, Or.inl h3, by omega⟩
theorem rpow3 {x v : Int64} {X V : Nat} (hx : x.toInt = X) (hX : X < 20000) (hv : v.toInt = V) (hV : V < 1000000000000) : ∃ z8 z9, fX5_power x (3 : Int32) = some z8 ∧ fX9_power x (3 : Int32) = some z9 ∧ z9.toInt = ((X * X * X : Nat) : Int) ∧ (V < X * X * X ∧ (z8 = LOSTv ∨ v < z8) ∧ v < z9 ∨ ¬ V < X * X * X ∧ ¬ z8 = LOSTv ∧ ¬ v < z8 ∧ ¬ v < z9) := by
  have hX2 : X * X ≤ 20000 * 20000 := Nat.mul_le_mul (by omega) (by omega)
  have hXX : X * X * X ≤ 20000 * 20000 * 20000 := Nat.mul_le_mul hX2 (by omega)
  have em : x.toInt * x.toInt = ((X * X : Nat) : Int) := by rw [hx, Int.natCast_mul]
  have e2 : (x * x).toInt = ((X * X : Nat) : Int) := by rw [t64_mul (by rw [em]; omega) (by rw [em]; omega), em]
  have em3 : (x * x).toInt * x.toInt = ((X * X * X : Nat) : Int) := by rw [e2, hx, Int.natCast_mul (X * X) X]
  have e9 : (x * x * x).toInt = ((X * X * X : Nat) : Int) := by rw [t64_mul (by rw [em3]; omega) (by rw [em3]; omega), em3]
  obtain ⟨z8, h1, h2⟩ := power3_ok x
  refine ⟨z8, x * x * x, h1, rfl, e9, ?_⟩
  rw [Int64.lt_iff_toInt_lt, Int64.lt_iff_toInt_lt, e9, hv]
  rcases h2 with ⟨h2, h3⟩ | ⟨h2, h3⟩
  · rw [em, hx, ← Int.natCast_mul] at h3
    rw [h3]
    have hl : ¬ z8 = LOSTv := fun e => by
      have := lost_toInt
      rw [e] at h3
      omega
    by_cases c : V < X * X * X
    · exact Or.inl ⟨c, Or.inr (by omega), by omega⟩
    · exact Or.inr ⟨c, hl, by omega, by omega⟩
  · have h4 : 10000 * 10000 ≤ X * X := Nat.mul_le_mul (by omega) (by omega)
    have : 10000 * 10000 * 10000 ≤ X * X * X := Nat.mul_le_mul h4 (by omega)
    exact Or.inl ⟨by omega, Or.inl h3, by omega⟩
