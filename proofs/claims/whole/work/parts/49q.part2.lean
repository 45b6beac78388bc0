/-! ===== part: the loop ===== -/
theorem part_nat {X W : Nat} (hW : 0 < W) (h : X < W * 10) : X / W < 10 ∧ X / W * W ≤ X ∧ X - X / W * W < W := by
  have h1 := Nat.div_add_mod X W
  have h2 := Nat.mod_lt X hW
  have h3 : W * (X / W) = X / W * W := Nat.mul_comm _ _
  refine ⟨Nat.div_lt_of_lt_mul h, by omega, by omega⟩
theorem part_dig {x b : Int64} {X Bn q : Nat} (hx : x.toInt = X) (hb : b.toInt = Bn) (hq : q < 12) (hB : 0 < Bn) (hX : X < 1000000000000) (h10 : X / (10 ^ q * Bn) < 10) : dvJ x (tensF q) = some (x / tensF q) ∧ dvJ (x / tensF q) b = some (x / tensF q / b) ∧ (x / tensF q / b).toInt32 = nI (X / (10 ^ q * Bn)) := by
  have hT : (tensF q).toInt = ((10 ^ q : Nat) : Int) := tens_toInt q hq
  have hTp : 0 < 10 ^ q := Nat.pow_pos (by decide)
  have e1 : (x / tensF q).toInt = ((X / 10 ^ q : Nat) : Int) := by
    rw [t64_div (by omega) (by omega), hx, hT, Int.natCast_ediv]
  have e2 : (x / tensF q / b).toInt = ((X / (10 ^ q * Bn) : Nat) : Int) := by
    rw [t64_div (by rw [e1]; exact Int.natCast_nonneg _) (by omega), e1, hb, ← Int.natCast_ediv, Nat.div_div_eq_div_mul]
  have hbz : ¬ b = 0 := fun e => by
    rw [e] at hb
    have z : (0 : Int64).toInt = 0 := rfl
    omega
  refine ⟨?_, ?_, ?_⟩
  · unfold dvJ; rw [if_neg (tens_ne q hq)]
  · unfold dvJ; rw [if_neg hbz]
  · generalize X / (10 ^ q * Bn) = D at e2 h10 ⊢
    exact nI_of_toInt (by rw [t64_to32 (by omega) (by omega), e2])
theorem part_step {x y b : Int64} {X Y Bn q : Nat} (hx : x.toInt = X) (hy : y.toInt = Y) (hb : b.toInt = Bn) (hq : q < 12) (hB : 0 < Bn) (hsum : Y * Bn + X < 1000000000000) (h10 : X < Bn * 10 ^ (q + 1)) : ∃ D X' Y' : Nat, D = X / (10 ^ q * Bn) ∧ D < 10 ∧ (y + (nI D).toInt64 * tensF q).toInt = Y' ∧ (Y' : Int) = Y + mI (D : Int) q ∧ (x - (nI D).toInt64 * tensF q * b).toInt = X' ∧ (X' : Int) = X - mI (D : Int) q * Bn ∧ (mI (D : Int) q * Bn).natAbs < 1000000000000 ∧ Y' * Bn + X' = Y * Bn + X ∧ X' < Bn * 10 ^ q ∧ Y' < 1000000000000 := by
  have hT : (tensF q).toInt = ((10 ^ q : Nat) : Int) := tens_toInt q hq
  have hTp : 0 < 10 ^ q := Nat.pow_pos (by decide)
  have eW : Bn * 10 ^ (q + 1) = 10 ^ q * Bn * 10 := by rw [Nat.pow_succ, ← Nat.mul_assoc, Nat.mul_comm Bn (10 ^ q)]
  rw [eW] at h10
  obtain ⟨d1, d2, d3⟩ := part_nat (Nat.mul_pos hTp hB) h10
  obtain ⟨D, hD⟩ : ∃ D, D = X / (10 ^ q * Bn) := ⟨_, rfl⟩
  rw [← hD] at d1 d2 d3
  have eDW : D * (10 ^ q * Bn) = D * 10 ^ q * Bn := (Nat.mul_assoc _ _ _).symm
  rw [eDW] at d2 d3
  have hYB : Y ≤ Y * Bn := Nat.le_mul_of_pos_right Y hB
  have hP : D * 10 ^ q ≤ D * 10 ^ q * Bn := Nat.le_mul_of_pos_right _ hB
  have hnew : (Y + D * 10 ^ q) * Bn + (X - D * 10 ^ q * Bn) = Y * Bn + X := by rw [Nat.add_mul]; omega
  have hm : mI (D : Int) q = ((D * 10 ^ q : Nat) : Int) := by unfold mI; rw [Int.natCast_mul]
  have hmb : mI (D : Int) q * Bn = ((D * 10 ^ q * Bn : Nat) : Int) := by rw [hm, ← Int.natCast_mul]
  have e0 : (nI D).toInt64.toInt = (D : Int) := nI_64 (by omega)
  have p1 : (nI D).toInt64.toInt * (tensF q).toInt = ((D * 10 ^ q : Nat) : Int) := by rw [e0, hT, Int.natCast_mul]
  have e1 : ((nI D).toInt64 * tensF q).toInt = ((D * 10 ^ q : Nat) : Int) := by rw [t64_mul (by rw [p1]; omega) (by rw [p1]; omega), p1]
  have p2 : ((nI D).toInt64 * tensF q).toInt * b.toInt = ((D * 10 ^ q * Bn : Nat) : Int) := by rw [e1, hb, ← Int.natCast_mul]
  have e2 : ((nI D).toInt64 * tensF q * b).toInt = ((D * 10 ^ q * Bn : Nat) : Int) := by rw [t64_mul (by rw [p2]; omega) (by rw [p2]; omega), p2]
  refine ⟨D, X - D * 10 ^ q * Bn, Y + D * 10 ^ q, hD, d1, ?_, by rw [hm]; omega, ?_, by rw [hmb]; omega, by rw [hmb]; omega, hnew, by rw [Nat.mul_comm Bn]; exact d3, ?_⟩
  · rw [t64_add] <;> rw [e1, hy] <;> omega
  · rw [t64_sub] <;> rw [e2, hx] <;> omega
  · have : (Y + D * 10 ^ q) * Bn ≤ Y * Bn + X := by omega
    have h2 : Y + D * 10 ^ q ≤ (Y + D * 10 ^ q) * Bn := Nat.le_mul_of_pos_right _ hB
    omega
