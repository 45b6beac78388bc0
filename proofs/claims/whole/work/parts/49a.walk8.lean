/-! ===== where a step leads: the class, row by row ===== -/
theorem mul_bnd {x y : Int} {A B : Nat} (hx : x.natAbs ≤ A) (hy : y.natAbs ≤ B) : (x * y).natAbs ≤ A * B := by
  rw [Int.natAbs_mul]; exact Nat.mul_le_mul hx hy
theorem sqnn (x : Int) : 0 ≤ x * x := by
  rcases Int.le_total 0 x with h | h
  · exact Int.mul_nonneg h h
  · have h1 := Int.mul_nonneg (show 0 ≤ -x by omega) (show 0 ≤ -x by omega)
    rw [Int.neg_mul_neg] at h1
    exact h1
theorem fit_abs {v : Int64} : Fit v ↔ v.toInt.natAbs < 1000000000000 := by unfold Fit; omega
theorem pow10_le {p : Nat} (h : p < 12) : 10 ^ p ≤ 100000000000 := by
  have : (10 : Nat) ^ p ≤ 10 ^ 11 := Nat.pow_le_pow_right (by decide) (by omega)
  exact this
theorem more_ok {nd : Int32} {d : Int} {p : Nat} (hd : nd.toInt = d) (h : d.natAbs ≤ 81) (hp : p < 12) : (nd.toInt64 * tensF p).toInt = d * ((10 ^ p : Nat) : Int) ∧ (d * ((10 ^ p : Nat) : Int)).natAbs ≤ 8100000000000 := by
  have h1 := pow10_le hp
  have h2 : (d * ((10 ^ p : Nat) : Int)).natAbs ≤ 81 * 100000000000 := mul_bnd h (by rw [Int.natAbs_natCast]; exact h1)
  refine ⟨?_, by omega⟩
  rw [t64_mul] <;> rw [t32_to64, hd, tens_toInt p hp] <;> omega
def Res (z : Int64) (val : Int) (ok : Prop) : Prop := (ok ∧ val.natAbs < 1000000000000 ∧ z.toInt = val) ∨ (¬ (ok ∧ val.natAbs < 1000000000000) ∧ z = LOSTv)
theorem Res_fit {z : Int64} {val : Int} {ok : Prop} (h : Res z val ok) : (Fit z ∧ z.toInt = val ∧ ok) ∨ (z = LOSTv ∧ ¬ (ok ∧ val.natAbs < 1000000000000)) := by
  rcases h with ⟨h1, h2, h3⟩ | ⟨h1, h2⟩
  · exact Or.inl ⟨fit_abs.mpr (by rw [h3]; exact h2), h3, h1⟩
  · exact Or.inr ⟨h2, h1⟩
theorem chk_ok {v : Int64} {val : Int} (hv : v.toInt = val) {ok : Prop} (hok : ok) : ∃ z, (Option.bind (fX5_isBeyond v) fun r => if r = (0 : Int32) then some v else some (-1000000000000000 : Int64)) = some z ∧ Res z val ok := by
  by_cases hf : Fit v
  · rw [isBeyond_f hf]
    exact ⟨v, rfl, Or.inl ⟨hok, by rw [← hv]; exact fit_abs.mp hf, hv⟩⟩
  · rw [isBeyond_n hf]
    exact ⟨LOSTv, rfl, Or.inr ⟨fun h => hf (fit_abs.mpr (by rw [hv]; exact h.2)), rfl⟩⟩
theorem neg_toInt_of {v : Int64} (h : -9223372036854775808 < v.toInt) : (if v < (0 : Int64) then -v else v).toInt = (v.toInt.natAbs : Int) := by
  by_cases c : v.toInt < 0
  · rw [if_pos (by rw [Int64.lt_iff_toInt_lt]; exact c), t64_neg h]; omega
  · rw [if_neg (by rw [Int64.lt_iff_toInt_lt]; exact c)]; omega
theorem product_ok {x y : Int64} (hx : x.toInt.natAbs ≤ 8100000000000) (hy : Fit y) : ∃ z, fX5_product x y = some z ∧ ((x.toInt * y.toInt).natAbs < 1000000000000 ∧ z.toInt = x.toInt * y.toInt ∨ ¬ (x.toInt * y.toInt).natAbs < 1000000000000 ∧ z = LOSTv) := by
  have z0 : (0 : Int64).toInt = 0 := rfl
  have hy' := fit_abs.mp hy
  have hs : (jabs x).toInt = x.toInt.natAbs := jabs_toInt' (by omega)
  have ht : (jabs y).toInt = y.toInt.natAbs := jabs_toInt' (by omega)
  have e999 : (999999999999 : Int64).toInt = 999999999999 := by decide +kernel
  unfold fX5_product
  by_cases c1 : jabs y = 0
  · have hy0 : y.toInt = 0 := by rw [c1, z0] at ht; omega
    rw [if_pos c1, hy0, Int.mul_zero]
    exact ⟨0, rfl, Or.inl ⟨by decide, rfl⟩⟩
  · rw [if_neg c1]
    have hy0 : y.toInt ≠ 0 := fun e => c1 (Int64.toInt_inj.mp (by rw [ht, z0]; omega))
    unfold dvJ
    rw [if_neg c1]
    simp only [Option.bind_some]
    have hq : ((999999999999 : Int64) / jabs y).toInt = ((999999999999 / y.toInt.natAbs : Nat) : Int) := by
      rw [t64_div (by rw [e999]; omega) (by omega), e999, ht]; rfl
    have hlt : ((999999999999 : Int64) / jabs y < jabs x) ↔ 999999999999 / y.toInt.natAbs < x.toInt.natAbs := by
      rw [Int64.lt_iff_toInt_lt, hq, hs]; omega
    have hm : (999999999999 / y.toInt.natAbs < x.toInt.natAbs) ↔ 999999999999 < x.toInt.natAbs * y.toInt.natAbs := Nat.div_lt_iff_lt_mul (by omega)
    have hab : (x.toInt * y.toInt).natAbs = x.toInt.natAbs * y.toInt.natAbs := Int.natAbs_mul _ _
    by_cases c : (999999999999 : Int64) / jabs y < jabs x
    · rw [if_pos c]
      exact ⟨LOSTv, rfl, Or.inr ⟨by rw [hab]; have := hm.mp (hlt.mp c); omega, rfl⟩⟩
    · rw [if_neg c]
      have h9 : ¬ 999999999999 < x.toInt.natAbs * y.toInt.natAbs := fun e => c (hlt.mpr (hm.mpr e))
      exact ⟨x * y, rfl, Or.inl ⟨by omega, by apply t64_mul <;> omega⟩⟩
theorem sq_toInt {x : Int64} (h : x.toInt.natAbs < 1000000) : (x * x).toInt = x.toInt * x.toInt ∧ (x.toInt * x.toInt).natAbs < 1000000000000 := by
  have h1 : (x.toInt * x.toInt).natAbs ≤ 999999 * 999999 := mul_bnd (by omega) (by omega)
  exact ⟨by apply t64_mul <;> omega, by omega⟩
theorem cube_toInt {x : Int64} (h : x.toInt.natAbs < 10000) : (x * x * x).toInt = x.toInt * x.toInt * x.toInt ∧ (x.toInt * x.toInt * x.toInt).natAbs < 1000000000000 := by
  have h1 : (x.toInt * x.toInt).natAbs ≤ 9999 * 9999 := mul_bnd (by omega) (by omega)
  have h2 : (x.toInt * x.toInt * x.toInt).natAbs ≤ 9999 * 9999 * 9999 := mul_bnd h1 (by omega)
  have h3 : (x * x).toInt = x.toInt * x.toInt := by apply t64_mul <;> omega
  exact ⟨by rw [t64_mul] <;> rw [h3] <;> omega, by omega⟩
theorem power2_ok (x : Int64) : ∃ z, fX5_power x (2 : Int32) = some z ∧ (x.toInt.natAbs < 1000000 ∧ z.toInt = x.toInt * x.toInt ∨ ¬ x.toInt.natAbs < 1000000 ∧ z = LOSTv) := by
  unfold fX5_power
  rw [if_pos rfl]
  unfold fX5_power_B14
  have e1 : (-(1000000 : Int64)).toInt = -1000000 := by decide +kernel
  have e2 : (1000000 : Int64).toInt = 1000000 := by decide +kernel
  by_cases c1 : -1000000 < x.toInt
  · rw [if_pos (by rw [Int64.lt_iff_toInt_lt, e1]; exact c1)]
    by_cases c2 : x.toInt < 1000000
    · rw [if_pos (by rw [Int64.lt_iff_toInt_lt, e2]; exact c2), if_pos rfl]
      exact ⟨_, rfl, Or.inl ⟨by omega, (sq_toInt (by omega)).1⟩⟩
    · rw [if_neg (by rw [Int64.lt_iff_toInt_lt, e2]; exact c2)]
      exact ⟨_, rfl, Or.inr ⟨by omega, rfl⟩⟩
  · rw [if_neg (by rw [Int64.lt_iff_toInt_lt, e1]; exact c1)]
    exact ⟨_, rfl, Or.inr ⟨by omega, rfl⟩⟩
theorem power3_ok (x : Int64) : ∃ z, fX5_power x (3 : Int32) = some z ∧ (x.toInt.natAbs < 10000 ∧ z.toInt = x.toInt * x.toInt * x.toInt ∨ ¬ x.toInt.natAbs < 10000 ∧ z = LOSTv) := by
  unfold fX5_power
  rw [if_neg (by decide)]
  unfold fX5_power_B14
  have e1 : (-(10000 : Int64)).toInt = -10000 := by decide +kernel
  have e2 : (10000 : Int64).toInt = 10000 := by decide +kernel
  by_cases c1 : -10000 < x.toInt
  · rw [if_pos (by rw [Int64.lt_iff_toInt_lt, e1]; exact c1)]
    by_cases c2 : x.toInt < 10000
    · rw [if_pos (by rw [Int64.lt_iff_toInt_lt, e2]; exact c2), if_neg (by decide)]
      exact ⟨_, rfl, Or.inl ⟨by omega, (cube_toInt (by omega)).1⟩⟩
    · rw [if_neg (by rw [Int64.lt_iff_toInt_lt, e2]; exact c2)]
      exact ⟨_, rfl, Or.inr ⟨by omega, rfl⟩⟩
  · rw [if_neg (by rw [Int64.lt_iff_toInt_lt, e1]; exact c1)]
    exact ⟨_, rfl, Or.inr ⟨by omega, rfl⟩⟩
theorem powerOf2 {x : Int64} (hx : -9223372036854775808 < x.toInt) : ∃ z, fX9_powerOf x (2 : Int32) = some z ∧ (x.toInt.natAbs < 1000000 ∧ z.toInt = x.toInt * x.toInt ∨ ¬ x.toInt.natAbs < 1000000 ∧ z = (1000000000000 : Int64)) := by
  obtain ⟨s, h1, h2⟩ := size9_toInt' hx
  have e2 : (1000000 : Int64).toInt = 1000000 := by decide +kernel
  unfold fX9_powerOf
  rw [h1]
  simp only [Option.bind_some]
  by_cases c : x.toInt.natAbs < 1000000
  · rw [if_pos (by rw [Int64.lt_iff_toInt_lt, e2, h2]; omega), if_neg (by decide)]
    exact ⟨_, rfl, Or.inl ⟨c, (sq_toInt c).1⟩⟩
  · rw [if_neg (by rw [Int64.lt_iff_toInt_lt, e2, h2]; omega)]
    exact ⟨_, rfl, Or.inr ⟨c, rfl⟩⟩
theorem powerOf3 {x : Int64} (hx : -9223372036854775808 < x.toInt) : ∃ z, fX9_powerOf x (3 : Int32) = some z ∧ (x.toInt.natAbs < 10000 ∧ z.toInt = x.toInt * x.toInt * x.toInt ∨ ¬ x.toInt.natAbs < 10000 ∧ z = (1000000000000 : Int64)) := by
  obtain ⟨s, h1, h2⟩ := size9_toInt' hx
  have e2 : (1000000 : Int64).toInt = 1000000 := by decide +kernel
  have e3 : (10000 : Int64).toInt = 10000 := by decide +kernel
  unfold fX9_powerOf
  rw [h1]
  simp only [Option.bind_some]
  by_cases c : x.toInt.natAbs < 10000
  · rw [if_pos (by rw [Int64.lt_iff_toInt_lt, e2, h2]; omega), if_pos trivial, if_pos (by rw [Int64.lt_iff_toInt_lt, e3, h2]; omega)]
    exact ⟨_, rfl, Or.inl ⟨c, (cube_toInt c).1⟩⟩
  · by_cases c2 : x.toInt.natAbs < 1000000
    · rw [if_pos (by rw [Int64.lt_iff_toInt_lt, e2, h2]; omega), if_pos trivial, if_neg (by rw [Int64.lt_iff_toInt_lt, e3, h2]; omega)]
      exact ⟨_, rfl, Or.inr ⟨c, rfl⟩⟩
    · rw [if_neg (by rw [Int64.lt_iff_toInt_lt, e2, h2]; omega)]
      exact ⟨_, rfl, Or.inr ⟨c, rfl⟩⟩
/-- a power, by kind 3 or 4 -/
def pwI (k : Nat) (x : Int) : Int := if k = 3 then x * x else x * x * x
def pwL (k : Nat) : Nat := if k = 3 then 1000000 else 10000
def wval (k a : Nat) (m : Int) (b c : Nat) (f : Nat → Int) (r : Nat) : Int :=
  if k = 5 then (if r = a then 0 else f r)
  else if k ≤ 1 then (if r = a then f r + m else f r)
  else if k = 2 then (if r = c then f r + m else if r = a then f r - m * f b else f r)
  else (if r = b then f r + m else if r = a then f r - (pwI k (f b + m) - pwI k (f b)) else f r)
def wok (k a : Nat) (m : Int) (b : Nat) (f : Nat → Int) (r : Nat) : Prop := r = a → (k = 2 → (m * f b).natAbs < 1000000000000) ∧ ((k = 3 ∨ k = 4) → (f b).natAbs < pwL k ∧ (f b + m).natAbs < pwL k)
theorem cube_diff {x m : Int} (hx : x.natAbs < 10000) (hy : (x + m).natAbs < 10000) (hm : 0 ≤ m ∧ m ≤ 9000) : ((x + m) * (x + m) * (x + m) - x * x * x).natAbs < 1000000000000 := by
  obtain ⟨h0, h1⟩ := hm
  obtain ⟨y, hyy⟩ : ∃ y, y = x + m := ⟨_, rfl⟩
  rw [← hyy] at hy ⊢
  have bx2 : (x * x).natAbs ≤ 9999 * 9999 := mul_bnd (by omega) (by omega)
  have bx3 : (x * x * x).natAbs ≤ 9999 * 9999 * 9999 := mul_bnd bx2 (by omega)
  have by2 : (y * y).natAbs ≤ 9999 * 9999 := mul_bnd (by omega) (by omega)
  have by3 : (y * y * y).natAbs ≤ 9999 * 9999 * 9999 := mul_bnd by2 (by omega)
  have px : 0 ≤ x * x := sqnn _
  have py : 0 ≤ y * y := sqnn _
  by_cases c1 : 0 ≤ x
  · have q1 : 0 ≤ x * x * x := Int.mul_nonneg px c1
    have q2 : 0 ≤ y * y * y := Int.mul_nonneg py (by omega)
    omega
  · by_cases c2 : y ≤ 0
    · have q1 : 0 ≤ x * x * (-x) := Int.mul_nonneg px (by omega)
      have q2 : 0 ≤ y * y * (-y) := Int.mul_nonneg py (by omega)
      rw [Int.mul_neg] at q1 q2
      omega
    · obtain ⟨u, hu⟩ : ∃ u : Nat, x = -(u : Int) := ⟨x.natAbs, by omega⟩
      obtain ⟨v, hv⟩ : ∃ v : Nat, y = (v : Int) := ⟨y.natAbs, by omega⟩
      have huv : u + v ≤ 9000 := by omega
      have e1 : (u + v) * (u + v) * (u + v) = u * u * u + v * v * v + 3 * (u * v * (u + v)) := by grind
      have e2 : (u + v) * (u + v) * (u + v) ≤ 9000 * 9000 * 9000 := Nat.mul_le_mul (Nat.mul_le_mul huv huv) huv
      have e3 : y * y * y - x * x * x = ((v * v * v + u * u * u : Nat) : Int) := by
        rw [hu, hv, Int.natCast_add, Int.natCast_mul, Int.natCast_mul, Int.natCast_mul, Int.natCast_mul]
        grind
      rw [e3, Int.natAbs_natCast]
      omega
theorem grown_n {N : Nat → Int32} {i k : Nat} (hi : i < 48) (h0 : N (6 * i) = nI k) (hk : k < 6) : fX3_grown (nI i) N = some (if k ≤ 1 then N (6 * i + 1) else if k = 2 then N (6 * i + 5) else N (6 * i + 4)) := by
  unfold fX3_grown
  have c0 : fX3_noted (nI i) (0 : Int32) N = some (nI k) := by rw [← h0]; exact noted_n (r := 0) (by omega)
  rw [c0, show fX3_noted (nI i) (1 : Int32) N = some (N (6 * i + 1)) from noted_n (r := 1) (by omega), show fX3_noted (nI i) (5 : Int32) N = some (N (6 * i + 5)) from noted_n (r := 5) (by omega), show fX3_noted (nI i) (4 : Int32) N = some (N (6 * i + 4)) from noted_n (r := 4) (by omega)]
  simp only [Option.bind_some]
  rcases (show k = 0 ∨ k = 1 ∨ k = 2 ∨ k = 3 ∨ k = 4 ∨ k = 5 by omega) with rfl | rfl | rfl | rfl | rfl | rfl <;> rfl
theorem nI_ne {a b : Nat} (h : a ≠ b) (ha : a < 2 ^ 31) (hb : b < 2 ^ 31) : ¬ nI a = nI b := fun e => h ((nI_eq ha hb).mp e)
theorem lessened_n {N : Nat → Int32} {C : Nat → Int64} {i k b : Nat} {more : Int64} (hi : i < 48) (hb : b < 8) (h0 : N (6 * i) = nI k) (h4 : N (6 * i + 4) = nI b) (hk : k = 2 ∨ k = 3 ∨ k = 4) (hf : Fit (C (8 * i + b))) (hm : more.toInt.natAbs ≤ 900000000000) (hm4 : k = 4 → 0 ≤ more.toInt ∧ more.toInt ≤ 9000) : ∃ z, fX3_lessened (nI i) more C N = some z ∧ ((k = 2 ∧ (((more.toInt * (C (8 * i + b)).toInt).natAbs < 1000000000000 ∧ z.toInt = more.toInt * (C (8 * i + b)).toInt) ∨ (¬ (more.toInt * (C (8 * i + b)).toInt).natAbs < 1000000000000 ∧ z = LOSTv))) ∨ ((k = 3 ∨ k = 4) ∧ (((C (8 * i + b)).toInt.natAbs < pwL k ∧ ((C (8 * i + b)).toInt + more.toInt).natAbs < pwL k ∧ z.toInt = pwI k ((C (8 * i + b)).toInt + more.toInt) - pwI k (C (8 * i + b)).toInt ∧ z.toInt.natAbs < 1000000000000) ∨ (¬ ((C (8 * i + b)).toInt.natAbs < pwL k ∧ ((C (8 * i + b)).toInt + more.toInt).natAbs < pwL k) ∧ z = LOSTv)))) := by
  have hf' := fit_abs.mp hf
  unfold fX3_lessened
  have c0 : fX3_noted (nI i) (0 : Int32) N = some (nI k) := by rw [← h0]; exact noted_n (r := 0) (by omega)
  have c4 : fX3_noted (nI i) (4 : Int32) N = some (nI b) := by rw [← h4]; exact noted_n (r := 4) (by omega)
  rw [c4]
  simp only [Option.bind_some]
  rw [cell_n (by omega), c0]
  simp only [Option.bind_some]
  have hsum : ((C (8 * i + b)) + more).toInt = (C (8 * i + b)).toInt + more.toInt := by apply t64_add <;> omega
  rcases hk with rfl | rfl | rfl
  · rw [if_pos (show nI 2 = (2 : Int32) from rfl)]
    obtain ⟨z, h1, h2⟩ := product_ok (x := more) (by omega) hf
    rw [h1]
    exact ⟨z, rfl, Or.inl ⟨rfl, h2⟩⟩
  · rw [if_neg (show ¬ nI 3 = (2 : Int32) by decide), if_pos (show nI 3 = (3 : Int32) from rfl)]
    unfold fX3_lessened_B45
    obtain ⟨z1, g1, g2⟩ := power2_ok (C (8 * i + b))
    obtain ⟨z2, g3, g4⟩ := power2_ok ((C (8 * i + b)) + more)
    rw [hsum] at g4
    rw [g1, g3]
    simp only [Option.bind_some]
    rcases g2 with ⟨a1, a2⟩ | ⟨a1, rfl⟩
    · have fz1 : ¬ z1 = (-1000000000000000 : Int64) := lost_not_fit (fit_abs.mpr (by rw [a2]; exact (sq_toInt a1).2))
      rw [if_neg fz1]
      rcases g4 with ⟨a3, a4⟩ | ⟨a3, rfl⟩
      · have b1 := (sq_toInt a1).2
        have b2 : (((C (8 * i + b)).toInt + more.toInt) * ((C (8 * i + b)).toInt + more.toInt)).natAbs ≤ 999999 * 999999 := mul_bnd (by omega) (by omega)
        have p1 : 0 ≤ (C (8 * i + b)).toInt * (C (8 * i + b)).toInt := sqnn _
        have p2 : 0 ≤ ((C (8 * i + b)).toInt + more.toInt) * ((C (8 * i + b)).toInt + more.toInt) := sqnn _
        have fz2 : ¬ z2 = (-1000000000000000 : Int64) := lost_not_fit (fit_abs.mpr (by rw [a4]; omega))
        rw [if_neg fz2]
        have hz : (z2 - z1).toInt = z2.toInt - z1.toInt := by apply t64_sub <;> omega
        refine ⟨z2 - z1, rfl, Or.inr ⟨by simp, Or.inl ⟨a1, a3, ?_, ?_⟩⟩⟩
        · rw [hz, a4, a2]; rfl
        · rw [hz, a4, a2]; omega
      · rw [if_pos rfl]
        exact ⟨LOSTv, rfl, Or.inr ⟨by simp, Or.inr ⟨fun h => a3 h.2, rfl⟩⟩⟩
    · rw [if_pos rfl]
      exact ⟨LOSTv, rfl, Or.inr ⟨by simp, Or.inr ⟨fun h => a1 h.1, rfl⟩⟩⟩
  · rw [if_neg (show ¬ nI 4 = (2 : Int32) by decide), if_neg (show ¬ nI 4 = (3 : Int32) by decide)]
    unfold fX3_lessened_B45
    obtain ⟨z1, g1, g2⟩ := power3_ok (C (8 * i + b))
    obtain ⟨z2, g3, g4⟩ := power3_ok ((C (8 * i + b)) + more)
    rw [hsum] at g4
    rw [g1, g3]
    simp only [Option.bind_some]
    rcases g2 with ⟨a1, a2⟩ | ⟨a1, rfl⟩
    · have b1 := (cube_toInt a1).2
      have fz1 : ¬ z1 = (-1000000000000000 : Int64) := lost_not_fit (fit_abs.mpr (by rw [a2]; exact b1))
      rw [if_neg fz1]
      rcases g4 with ⟨a3, a4⟩ | ⟨a3, rfl⟩
      · have b2 := (cube_toInt (x := (C (8 * i + b)) + more) (by rw [hsum]; exact a3)).2
        rw [hsum] at b2
        have fz2 : ¬ z2 = (-1000000000000000 : Int64) := lost_not_fit (fit_abs.mpr (by rw [a4]; exact b2))
        rw [if_neg fz2]
        have hd := cube_diff a1 a3 (hm4 rfl)
        have hz : (z2 - z1).toInt = z2.toInt - z1.toInt := by apply t64_sub <;> omega
        refine ⟨z2 - z1, rfl, Or.inr ⟨by simp, Or.inl ⟨a1, a3, ?_, ?_⟩⟩⟩
        · rw [hz, a4, a2]; rfl
        · rw [hz, a4, a2]; exact hd
      · rw [if_pos rfl]
        exact ⟨LOSTv, rfl, Or.inr ⟨by simp, Or.inr ⟨fun h => a3 h.2, rfl⟩⟩⟩
    · rw [if_pos rfl]
      exact ⟨LOSTv, rfl, Or.inr ⟨by simp, Or.inr ⟨fun h => a1 h.1, rfl⟩⟩⟩
