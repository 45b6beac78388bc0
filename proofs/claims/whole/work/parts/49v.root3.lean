/-! ===== root: the grown row ===== -/
theorem root_x {y : Int64} {Y d q L : Nat} (hy : y.toInt = Y) (hL : L ≤ 6) (hY : Y < 10 ^ L) (hd : d ≤ 9) (hq : q < L) : (y + (nI d).toInt64 * tensF q).toInt = ((Y + d * 10 ^ q : Nat) : Int) ∧ Y + d * 10 ^ q < 2 * 10 ^ L := by
  have hT : (tensF q).toInt = ((10 ^ q : Nat) : Int) := tens_toInt q (by omega)
  have h6 : 10 ^ L ≤ 10 ^ 6 := Nat.pow_le_pow_right (by decide) hL
  have e6 : (10 : Nat) ^ 6 = 1000000 := rfl
  have hpw : 10 ^ (q + 1) ≤ 10 ^ L := Nat.pow_le_pow_right (by decide) hq
  rw [Nat.pow_succ] at hpw
  have hdT : d * 10 ^ q ≤ 9 * 10 ^ q := Nat.mul_le_mul_right _ hd
  have e0 : (nI d).toInt64.toInt = (d : Int) := nI_64 (by omega)
  have p1 : (nI d).toInt64.toInt * (tensF q).toInt = ((d * 10 ^ q : Nat) : Int) := by rw [e0, hT, Int.natCast_mul]
  have e1 : ((nI d).toInt64 * tensF q).toInt = ((d * 10 ^ q : Nat) : Int) := by rw [t64_mul (by rw [p1]; omega) (by rw [p1]; omega), p1]
  refine ⟨?_, by omega⟩
  rw [t64_add] <;> rw [e1, hy] <;> omega
