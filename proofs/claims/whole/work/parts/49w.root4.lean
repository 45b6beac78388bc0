/-! ===== root: powers of the whole row ===== -/
def PW (k X : Nat) : Nat := if k = 3 then X * X else X * X * X
theorem PW_I (k X : Nat) : pwI k (X : Int) = ((PW k X : Nat) : Int) := by
  unfold pwI PW
  by_cases c : k = 3
  · rw [if_pos c, if_pos c, Int.natCast_mul]
  · rw [if_neg c, if_neg c, Int.natCast_mul, Int.natCast_mul]
theorem PW_lt3 {X : Nat} (h : PW 3 X < 1000000000000) : X < 10 ^ 6 := by
  rcases Nat.lt_or_ge X (10 ^ 6) with q | q
  · exact q
  · exfalso
    have e6 : (10 : Nat) ^ 6 = 1000000 := rfl
    have : 1000000 * 1000000 ≤ X * X := Nat.mul_le_mul (by omega) (by omega)
    have e : PW 3 X = X * X := if_pos rfl
    omega
theorem PW_lt4 {X : Nat} (h : PW 4 X < 1000000000000) : X < 10 ^ 4 := by
  rcases Nat.lt_or_ge X (10 ^ 4) with q | q
  · exact q
  · exfalso
    have e4 : (10 : Nat) ^ 4 = 10000 := rfl
    have h2 : 10000 * 10000 ≤ X * X := Nat.mul_le_mul (by omega) (by omega)
    have : 10000 * 10000 * 10000 ≤ X * X * X := Nat.mul_le_mul h2 (by omega)
    have e : PW 4 X = X * X * X := if_neg (by decide)
    omega
