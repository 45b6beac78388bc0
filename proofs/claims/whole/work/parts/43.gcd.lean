/-! ===== greatest parts: both ways of Euclid; what all go into ===== -/
theorem jabs_toInt' {v : Int64} (h : -9223372036854775808 < v.toInt) : (jabs v).toInt = (v.toInt.natAbs : Int) := by
  unfold jabs
  by_cases h3 : 0 < v.toInt
  · rw [if_pos (by rw [Int64.lt_iff_toInt_lt]; exact h3)]; omega
  · rw [if_neg (by rw [Int64.lt_iff_toInt_lt]; exact h3), t64_neg (by omega)]; omega
theorem size9_toInt' {v : Int64} (h : -9223372036854775808 < v.toInt) : ∃ z, fX9_size v = some z ∧ z.toInt = (v.toInt.natAbs : Int) := by
  unfold fX9_size
  by_cases h3 : v.toInt < 0
  · rw [if_pos (by rw [Int64.lt_iff_toInt_lt]; exact h3)]; exact ⟨_, rfl, by rw [t64_neg (by omega)]; omega⟩
  · rw [if_neg (by rw [Int64.lt_iff_toInt_lt]; exact h3)]; exact ⟨_, rfl, by omega⟩
theorem lN_z {b : Nat} (hb : b < 2 ^ 63) : lN b = (0 : Int64) ↔ b = 0 := by
  constructor
  · intro h
    have h1 := lN_toInt' hb
    rw [h] at h1
    have : (0 : Int64).toInt = 0 := rfl
    omega
  · rintro rfl; rfl
theorem lN_mod {a b : Nat} (ha : a < 2 ^ 63) (hb : b < 2 ^ 63) : lN a % lN b = lN (a % b) := by
  apply lN_of_toInt
  rw [t64_mod (by rw [lN_toInt' ha]; exact Int.natCast_nonneg _), lN_toInt' ha, lN_toInt' hb]; rfl
theorem lN_div {a b : Nat} (ha : a < 2 ^ 63) (hb : b < 2 ^ 63) (h0 : 0 < b) : lN a / lN b = lN (a / b) := by
  apply lN_of_toInt
  rw [t64_div (by rw [lN_toInt' ha]; exact Int.natCast_nonneg _) (by rw [lN_toInt' hb]; omega), lN_toInt' ha, lN_toInt' hb]; rfl
theorem euclid_step {a b m : Nat} (hb : 0 < b) (hab : b ≤ a) (h : a * b < 2 ^ m) : ∃ k, m = k + 1 ∧ b * (a % b) < 2 ^ k := by
  have h1 : 0 < a * b := Nat.mul_pos (by omega) hb
  cases m with
  | zero => simp at h; omega
  | succ k =>
    refine ⟨k, rfl, ?_⟩
    have h2 : a % b < b := Nat.mod_lt _ hb
    have h3 : b + a % b ≤ a := by
      have h4 := Nat.div_add_mod a b
      have h5 : 1 ≤ a / b := (Nat.le_div_iff_mul_le hb).mpr (by omega)
      have h6 : b * 1 ≤ b * (a / b) := Nat.mul_le_mul_left _ h5
      omega
    have h7 : (b + a % b) * b ≤ a * b := Nat.mul_le_mul_right _ h3
    have h8 : a % b * b ≤ b * b := Nat.mul_le_mul_right _ (by omega)
    have h9 : (b + a % b) * b = b * b + a % b * b := Nat.add_mul _ _ _
    have h10 : b * (a % b) = a % b * b := Nat.mul_comm _ _
    have h11 : (2 : Nat) ^ (k + 1) = 2 ^ k * 2 := Nat.pow_succ _ _
    omega
theorem euclid_both {a b : Nat} (ha : a < 2 ^ 63) (hb : b < 2 ^ 63) : itr (fX5_greatestPart_L15) KF (lN a, lN b, (0 : Int32)) = some (lN (Nat.gcd a b)) ∧ itr (fX9_common_L12) KF (lN a, lN b) = some (lN (Nat.gcd a b)) := by
  have h0 : a * b < 2 ^ 126 := by
    have h1 : a * b ≤ (2 ^ 63) * b := Nat.mul_le_mul_right _ (by omega)
    rcases Nat.eq_zero_or_pos b with rfl | q
    · simp
    · have h2 : a * b < 2 ^ 63 * b := Nat.mul_lt_mul_of_pos_right ha q
      have h3 : 2 ^ 63 * b ≤ 2 ^ 63 * 2 ^ 63 := Nat.mul_le_mul_left _ (by omega)
      have h4 : (2 : Nat) ^ 63 * 2 ^ 63 = 2 ^ 126 := by decide
      omega
  obtain ⟨e, e', h1, h2, h3, h4⟩ := itr_rel (f := fX5_greatestPart_L15) (g := fX9_common_L12)
    (fun m s t => ∃ x y i k, s = (lN x, lN y, nI i) ∧ t = (lN x, lN y) ∧ x < 2 ^ 63 ∧ y < 2 ^ 63 ∧ Nat.gcd x y = Nat.gcd a b ∧ x * y < 2 ^ k ∧ (y ≤ x ∧ m = k ∨ m = k + 1) ∧ i + m ≤ 200)
    (fun e e' => e = lN (Nat.gcd a b) ∧ e' = lN (Nat.gcd a b))
    (fun m s t hI => by
      obtain ⟨x, y, i, k, rfl, rfl, hx, hy, hg, hk, hm, hi⟩ := hI
      show (∃ e e', fX5_greatestPart_L15b (lN x) (lN y) (nI i) = some (.inr e) ∧ fX9_common_L12b (lN x) (lN y) = some (.inr e') ∧ _) ∨ ∃ j s' t', j < m ∧ fX5_greatestPart_L15b (lN x) (lN y) (nI i) = some (.inl s') ∧ fX9_common_L12b (lN x) (lN y) = some (.inl t') ∧ _
      unfold fX5_greatestPart_L15b fX9_common_L12b
      rw [if_pos (show nI i < (1000 : Int32) from nI_lt (b := 1000) (by omega) (by decide))]
      rcases Nat.eq_zero_or_pos y with rfl | hpos
      · left
        rw [if_pos ((lN_z hy).mpr rfl), if_pos ((lN_z hy).mpr rfl)]
        rw [Nat.gcd_zero_right] at hg
        exact ⟨_, _, rfl, rfl, by rw [hg], by rw [hg]⟩
      · right
        have hne : ¬ lN y = 0 := fun q => by have := (lN_z hy).mp q; omega
        rw [if_neg hne, if_neg hne]
        unfold rmJ
        rw [if_neg hne, lN_mod hx hy]
        simp only [Option.bind_some, nI_inc]
        have hmod : x % y < y := Nat.mod_lt _ hpos
        have hg' : Nat.gcd y (x % y) = Nat.gcd a b := by rw [← hg, Nat.gcd_comm x y, Nat.gcd_rec y x, Nat.gcd_comm]
        by_cases hle : y ≤ x
        · obtain ⟨k', rfl, hk'⟩ := euclid_step hpos hle hk
          exact ⟨k', _, _, by omega, rfl, rfl, y, x % y, i + 1, k', rfl, rfl, hy, by omega, hg', hk', Or.inl ⟨by omega, rfl⟩, by omega⟩
        · have e1 : x % y = x := Nat.mod_eq_of_lt (by omega)
          rw [e1] at hg' ⊢
          have hm' : m = k + 1 := by omega
          exact ⟨k, _, _, by omega, rfl, rfl, y, x, i + 1, k, rfl, rfl, hy, hx, hg', by rw [Nat.mul_comm]; exact hk, Or.inl ⟨by omega, rfl⟩, by omega⟩)
    KF 127 (lN a, lN b, (0 : Int32)) (lN a, lN b) (KF_lt (by decide)) ⟨a, b, 0, 126, rfl, rfl, ha, hb, rfl, h0, Or.inr rfl, by omega⟩
  exact ⟨by rw [h1, h3], by rw [h2, h4]⟩
theorem gcd8 {x y : Int64} (hx : -9223372036854775808 < x.toInt) (hy : -9223372036854775808 < y.toInt) : fX5_greatestPart x y = some (lN (Nat.gcd x.toInt.natAbs y.toInt.natAbs)) := by
  have h1 := Int64.toInt_lt x
  have h2 := Int64.toInt_lt y
  unfold fX5_greatestPart
  rw [lN_of_toInt (jabs_toInt' hx), lN_of_toInt (jabs_toInt' hy), (euclid_both (by omega) (by omega)).1]
  rfl
theorem gcd9 {x y : Int64} (hx : -9223372036854775808 < x.toInt) (hy : -9223372036854775808 < y.toInt) : fX9_common x y = some (lN (Nat.gcd x.toInt.natAbs y.toInt.natAbs)) := by
  have h1 := Int64.toInt_lt x
  have h2 := Int64.toInt_lt y
  obtain ⟨z, e1, e2⟩ := size9_toInt' hx
  obtain ⟨w, e3, e4⟩ := size9_toInt' hy
  unfold fX9_common
  rw [e1, e3]
  simp only [Option.bind_some]
  rw [lN_of_toInt e2, lN_of_toInt e4, (euclid_both (by omega) (by omega)).2]
  rfl
theorem bezout (a b : Nat) : ∃ x y : Int, (a : Int) * x + b * y = (Nat.gcd a b : Nat) := by
  induction a, b using Nat.gcd.induction with
  | H0 n => exact ⟨0, 1, by simp⟩
  | H1 m n hm ih =>
    obtain ⟨x, y, h⟩ := ih
    refine ⟨y - x * ((n / m : Nat) : Int), x, ?_⟩
    rw [Nat.gcd_rec, ← h]
    have e : (n : Int) = (m : Int) * ((n / m : Nat) : Int) + ((n % m : Nat) : Int) := by
      rw [← Int.natCast_mul, ← Int.natCast_add, Nat.div_add_mod]
    have e2 : (n : Int) * x = ((m : Int) * ((n / m : Nat) : Int) + ((n % m : Nat) : Int)) * x := by rw [← e]
    rw [e2]
    grind
/-- a number that both greatest parts go into: the greatest part of what both go into goes into it -/
theorem gcd_lcm_dvd {a b c : Nat} {x : Nat} (h1 : Nat.gcd a c ∣ x) (h2 : Nat.gcd b c ∣ x) (ha : 0 < a) : Nat.gcd (Nat.lcm a b) c ∣ x := by
  have hd : ∃ d, d = Nat.gcd (Nat.lcm a b) c := ⟨_, rfl⟩
  obtain ⟨d, hd⟩ := hd
  rw [← hd]
  have d1 : d ∣ Nat.lcm a b := hd ▸ Nat.gcd_dvd_left _ _
  have d2 : d ∣ c := hd ▸ Nat.gcd_dvd_right _ _
  have k1 : Nat.gcd d a ∣ x := Nat.dvd_trans (Nat.dvd_gcd (Nat.gcd_dvd_right _ _) (Nat.dvd_trans (Nat.gcd_dvd_left _ _) d2)) h1
  have k2 : Nat.gcd d b ∣ x := Nat.dvd_trans (Nat.dvd_gcd (Nat.gcd_dvd_right _ _) (Nat.dvd_trans (Nat.gcd_dvd_left _ _) d2)) h2
  refine Nat.dvd_trans ?_ (Nat.lcm_dvd k1 k2)
  -- d goes into the lcm of gcd d a and gcd d b
  have hg : 0 < Nat.gcd (Nat.gcd d a) (Nat.gcd d b) := by
    apply Nat.gcd_pos_of_pos_left
    exact Nat.gcd_pos_of_pos_right _ ha
  apply Nat.dvd_of_mul_dvd_mul_right hg
  rw [Nat.mul_comm (Nat.lcm _ _), Nat.gcd_mul_lcm]
  have kg : Nat.gcd (Nat.gcd d a) (Nat.gcd d b) ∣ Nat.gcd a b := Nat.dvd_gcd (Nat.dvd_trans (Nat.gcd_dvd_left _ _) (Nat.gcd_dvd_right _ _)) (Nat.dvd_trans (Nat.gcd_dvd_right _ _) (Nat.gcd_dvd_right _ _))
  have kd : Nat.gcd (Nat.gcd d a) (Nat.gcd d b) ∣ d := Nat.dvd_trans (Nat.gcd_dvd_left _ _) (Nat.gcd_dvd_left _ _)
  have ka : Nat.gcd (Nat.gcd d a) (Nat.gcd d b) ∣ a := Nat.dvd_trans (Nat.gcd_dvd_left _ _) (Nat.gcd_dvd_right _ _)
  have kb : Nat.gcd (Nat.gcd d a) (Nat.gcd d b) ∣ b := Nat.dvd_trans (Nat.gcd_dvd_right _ _) (Nat.gcd_dvd_right _ _)
  have e0 : Nat.gcd d a * Nat.gcd d b = Nat.gcd (Nat.gcd d a * d) (Nat.gcd d a * b) := (Nat.gcd_mul_left _ _ _).symm
  have e1 : Nat.gcd d a * b = Nat.gcd (d * b) (a * b) := (Nat.gcd_mul_right _ _ _).symm
  rw [e0]
  apply Nat.dvd_gcd
  · rw [Nat.mul_comm (Nat.gcd d a) d]
    exact Nat.mul_dvd_mul_left _ (Nat.gcd_dvd_left _ _)
  · rw [e1]
    apply Nat.dvd_gcd
    · exact Nat.mul_dvd_mul_left _ kb
    · have e : Nat.gcd a b * Nat.lcm a b = a * b := Nat.gcd_mul_lcm a b
      rw [← e, Nat.mul_comm (Nat.gcd a b)]
      exact Nat.mul_dvd_mul d1 kg
