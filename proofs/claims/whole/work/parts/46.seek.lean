/-! ===== seek, problems ===== -/
theorem nI_sub {a b : Nat} (h : b ≤ a) : nI a - nI b = nI (a - b) := by
  have e : nI a = nI (a - b) + nI b := by rw [nI_add, Nat.sub_add_cancel h]
  rw [e]
  exact Int32.add_sub_cancel _ _
theorem nI_div {a b : Nat} (ha : a < 2 ^ 31) (hb : b < 2 ^ 31) (h0 : 0 < b) : nI a / nI b = nI (a / b) := by
  apply nI_of_toInt
  rw [t32_div (by rw [nI_toInt ha]; exact Int.natCast_nonneg _) (by rw [nI_toInt hb]; omega), nI_toInt ha, nI_toInt hb]; rfl
theorem nI_mod {a b : Nat} (ha : a < 2 ^ 31) (hb : b < 2 ^ 31) : nI a % nI b = nI (a % b) := by
  apply nI_of_toInt
  rw [t32_mod (by rw [nI_toInt ha]; exact Int.natCast_nonneg _), nI_toInt ha, nI_toInt hb]; rfl
theorem lN_nn {n : Nat} (h : n < 2 ^ 63) : ¬ lN n < (0 : Int64) := by
  rw [Int64.lt_iff_toInt_lt, lN_toInt' h]
  show ¬ (n : Int) < 0
  omega
theorem lN_ltI {a b : Nat} (ha : a < 2 ^ 63) (hb : b < 2 ^ 63) : lN a < lN b ↔ a < b := by
  rw [Int64.lt_iff_toInt_lt, lN_toInt' ha, lN_toInt' hb]
  omega
theorem lN_eqI {a b : Nat} (ha : a < 2 ^ 63) (hb : b < 2 ^ 63) : lN a = lN b ↔ a = b := by
  constructor
  · intro h
    have h1 := lN_toInt' ha
    rw [h, lN_toInt' hb] at h1
    omega
  · rintro rfl; rfl
theorem G_seek (p0 p1 p2 : Int32) : ∃ r : Int32, fX8_seek p0 p1 p2 = some r ∧ fX9_seek p0 p1 p2 = some r := by
  unfold fX8_seek fX9_seek
  have e2 : (2 : Int32).toInt = 2 := rfl
  have e1000 : (1000 : Int32).toInt = 1000 := rfl
  have e0 : (0 : Int32).toInt = 0 := rfl
  have e1 : (1 : Int32).toInt = 1 := rfl
  by_cases a1 : 2 ≤ p1.toInt ∧ p1.toInt ≤ 1000
  · have es : ((p1 - 1).toInt64).toInt = p1.toInt - 1 := by rw [t32_to64, t32_sub (by omega) (by omega), e1]
    rw [if_neg (by rw [Int32.lt_iff_toInt_lt, e2]; omega), if_neg (by rw [Int32.lt_iff_toInt_lt, e1000]; omega), in9_y (by rw [t32_to64]; exact a1.1) (by rw [t32_to64]; exact a1.2)]
    simp only [Option.bind_some, i10]
    by_cases a2 : 1 ≤ p0.toInt ∧ p0.toInt < p1.toInt
    · rw [if_neg (by rw [Int32.lt_iff_toInt_lt, e1]; omega), if_pos (by rw [Int32.lt_iff_toInt_lt]; exact a2.2), in9_y (by rw [t32_to64]; exact a2.1) (by rw [t32_to64, es]; omega)]
      simp only [Option.bind_some, i10]
      by_cases a3 : 0 ≤ p2.toInt ∧ p2.toInt ≤ 2
      · rw [if_neg (by rw [Int32.lt_iff_toInt_lt, e0]; omega), if_neg (by rw [Int32.lt_iff_toInt_lt, e2]; omega), in9_y (by rw [t32_to64]; exact a3.1) (by rw [t32_to64]; exact a3.2)]
        simp only [Option.bind_some, i10]
        obtain ⟨m, hm, rfl⟩ : ∃ m : Nat, m ≤ 1000 ∧ p1 = nI m := ⟨p1.toInt.toNat, by omega, nI_of_toInt (by omega)⟩
        obtain ⟨a, ha, rfl⟩ : ∃ a : Nat, a < 1000 ∧ p0 = nI a := ⟨p0.toInt.toNat, by omega, nI_of_toInt (by omega)⟩
        obtain ⟨e, e', h1, h2, rfl⟩ := itr_rel (f := fX2_seekOne_L14 (nI m) p2) (g := fX9_seek_L57 (nI m) p2)
          (fun k s t => ∃ a b i x4 x6, s = (nI a, x4, nI b, x6, nI i) ∧ t = s ∧ a ≤ 1000 ∧ b ≤ 1000 ∧ k = b ∧ i + b ≤ 1000)
          (fun e e' => e = e')
          (fun k s t hI => by
            obtain ⟨a, b, i, x4, x6, rfl, rfl, ha, hb, rfl, hi⟩ := hI
            show (∃ e e', fX2_seekOne_L14b (nI m) p2 (nI a) x4 (nI k) x6 (nI i) = some (.inr e) ∧ fX9_seek_L57b (nI m) p2 (nI a) x4 (nI k) x6 (nI i) = some (.inr e') ∧ _) ∨ ∃ j s' t', j < k ∧ fX2_seekOne_L14b (nI m) p2 (nI a) x4 (nI k) x6 (nI i) = some (.inl s') ∧ fX9_seek_L57b (nI m) p2 (nI a) x4 (nI k) x6 (nI i) = some (.inl t') ∧ _
            unfold fX2_seekOne_L14b fX9_seek_L57b
            rcases Nat.eq_zero_or_pos k with rfl | hk
            · left
              have z : nI 0 = (0 : Int32) := rfl
              rw [if_pos z]
              by_cases q : nI i < (1000 : Int32)
              · rw [if_pos q]; exact ⟨_, _, rfl, rfl, rfl⟩
              · rw [if_neg q]; exact ⟨_, _, rfl, rfl, rfl⟩
            · right
              have z : ¬ nI k = (0 : Int32) := fun q => by have := (nI_z (by omega)).mp q; omega
              rw [if_pos (show nI i < (1000 : Int32) from nI_lt (b := 1000) (by omega) (by decide)), if_neg z]
              unfold dvI
              rw [if_neg z]
              simp only [Option.bind_some, nI_inc]
              rw [irem_eq, nI_mod (by omega) (by omega)]
              have hlt : a % k < k := Nat.mod_lt _ hk
              exact ⟨a % k, _, _, hlt, rfl, rfl, k, a % k, i + 1, _, _, rfl, rfl, by omega, by omega, rfl, by omega⟩) KF a (nI m, (0 : Int32), nI a, (1 : Int32), (0 : Int32)) (nI m, (0 : Int32), nI a, (1 : Int32), (0 : Int32)) (KF_lt (by omega)) ⟨m, a, 0, 0, 1, rfl, rfl, by omega, by omega, rfl, by omega⟩
        unfold fX2_seekOne
        rw [h1, h2]
        obtain ⟨y3, y4, y7⟩ := e
        simp only [bn3, Option.bind_some]
        unfold fX2_seekOne_B73 fX9_seek_B125
        by_cases q0 : p2 = 0
        · exact ⟨y7, by rw [if_pos q0]; rfl, by rw [if_pos q0]; split <;> rfl⟩
        · by_cases q2 : p2 = 2
          · exact ⟨y3, by rw [if_neg q0, if_pos q2]; rfl, by rw [if_neg q0, if_pos q2]; split <;> rfl⟩
          · by_cases q1 : y3 = 1
            · by_cases q4 : y4 < 0
              · exact ⟨y4 + nI m, by rw [if_neg q0, if_neg q2, if_pos q1, if_pos q4]; rfl, by rw [if_pos q4, if_neg q0, if_neg q2, if_pos q1]⟩
              · exact ⟨y4, by rw [if_neg q0, if_neg q2, if_pos q1, if_neg q4]; rfl, by rw [if_neg q4, if_neg q0, if_neg q2, if_pos q1]⟩
            · exact ⟨-6, by rw [if_neg q0, if_neg q2, if_neg q1]; rfl, by rw [if_neg q0, if_neg q2, if_neg q1]; split <;> rfl⟩
      · rw [in9_no (by rw [t32_to64]; exact a3)]
        refine ⟨-2, ?_, rfl⟩
        by_cases q : p2 < 0
        · rw [if_pos q]
        · rw [if_neg q, if_pos]
          rw [Int32.lt_iff_toInt_lt, e0] at q
          rw [Int32.lt_iff_toInt_lt, e2]
          omega
    · rw [in9_no (by rw [t32_to64, es]; show ¬ (1 ≤ p0.toInt ∧ _); omega)]
      refine ⟨-2, ?_, rfl⟩
      by_cases q : p0 < 1
      · rw [if_pos q]
      · rw [if_neg q, if_neg]
        rw [Int32.lt_iff_toInt_lt, e1] at q
        rw [Int32.lt_iff_toInt_lt]
        omega
  · rw [in9_no (by rw [t32_to64]; exact a1)]
    refine ⟨-2, ?_, rfl⟩
    by_cases q : p1 < 2
    · rw [if_pos q]
    · rw [if_neg q, if_pos]
      rw [Int32.lt_iff_toInt_lt, e2] at q
      rw [Int32.lt_iff_toInt_lt, e1000]
      omega
theorem told8 (p : Int32) : fX4_isTold p = some (if 0 ≤ p.toInt ∧ p.toInt ≤ 1000000 then 1 else 0) ∧ fX9_isGiven p = some (if 0 ≤ p.toInt ∧ p.toInt ≤ 1000000 then 1 else 0) := by
  have e0 : (0 : Int32).toInt = 0 := rfl
  have em : (1000000 : Int32).toInt = 1000000 := by decide +kernel
  have f0 : (0 : Int64).toInt = 0 := rfl
  have fm : (1000000 : Int64).toInt = 1000000 := by decide +kernel
  unfold fX4_isTold fX9_isGiven
  rw [in9, t32_to64, f0, fm]
  simp only [Int32.lt_iff_toInt_lt, e0, em]
  by_cases h : 0 ≤ p.toInt ∧ p.toInt ≤ 1000000
  · rw [if_pos h, if_neg (by omega), if_neg (by omega)]; exact ⟨rfl, rfl⟩
  · rw [if_neg h]
    refine ⟨?_, rfl⟩
    by_cases h1 : p.toInt < 0
    · rw [if_pos h1]
    · rw [if_neg h1, if_pos (by omega)]
theorem B305_n {x1 x2 x3 x4 x5 x6 : Int32} (h : ¬ x1 = 5) : fX9_problem_B305 x1 x2 x3 x4 x5 x6 (-1000000000000005 : Int64) (0 : Int64) = some (-1000000000000005 : Int64) := by
  unfold fX9_problem_B305
  rw [if_neg h, if_pos (by decide)]
theorem B234_n {x1 x2 x3 x4 x5 x6 : Int32} (h4 : ¬ x1 = 4) (h : ¬ x1 = 5) : fX9_problem_B234 x1 x2 x3 x4 x5 x6 (-1000000000000005 : Int64) (0 : Int64) = some (-1000000000000005 : Int64) := by
  unfold fX9_problem_B234
  rw [if_neg h4, B305_n h]
theorem B115_n {x1 x2 x3 x4 x5 x6 : Int32} (h2 : ¬ x1 = 2) (h3 : ¬ x1 = 3) : fX9_problem_B115 x1 x2 x3 x4 x5 x6 (-1000000000000005 : Int64) (0 : Int64) = fX9_problem_B234 x1 x2 x3 x4 x5 x6 (-1000000000000005 : Int64) (0 : Int64) := by
  unfold fX9_problem_B115
  rw [if_neg h2, if_neg h3]
def p357 (x y z : Nat) : Nat := (70 * x + 21 * y + 15 * z) % 105
theorem left357 : ∀ x, x < 3 → ∀ y, y < 5 → ∀ z, z < 7 → itr (fX4_leftByThreeFiveSeven_L30 (nI x) (nI y) (nI z)) KF (0 : Int32) = some (.inr (lN (p357 x y z))) ∧ itr (fX9_problem_L259 (nI x) (nI y) (nI z) 0 0) KF (0 : Int64) = some (lN (p357 x y z)) := by decide +kernel
theorem side_both {x : Nat} (hx : x ≤ 1000000) (p q : Int32) : ∃ s, s ≤ 1000 ∧ itr (fX4_side_L2 (nI x) p) KF (0 : Int64) = some (lN s) ∧ itr (fX9_problem_L123 (nI x) q) KF (0 : Int64) = some (lN s) := by
  obtain ⟨e, e', h1, h2, s, hs, rfl, rfl⟩ := itr_rel (f := fX4_side_L2 (nI x) p) (g := fX9_problem_L123 (nI x) q)
    (fun m s t => ∃ k, s = lN k ∧ t = lN k ∧ k * k ≤ x ∧ k ≤ 1000 ∧ m = 1001 - k)
    (fun e e' => ∃ s, s ≤ 1000 ∧ e = lN s ∧ e' = lN s)
    (fun m s t hI => by
      obtain ⟨k, rfl, rfl, hk, hk2, rfl⟩ := hI
      show (∃ e e', fX4_side_L2b (nI x) p (lN k) = some (.inr e) ∧ fX9_problem_L123b (nI x) q (lN k) = some (.inr e') ∧ _) ∨ ∃ j s' t', j < 1001 - k ∧ fX4_side_L2b (nI x) p (lN k) = some (.inl s') ∧ fX9_problem_L123b (nI x) q (lN k) = some (.inl t') ∧ _
      unfold fX4_side_L2b fX9_problem_L123b
      have e1 : lN k + (1 : Int64) = lN (k + 1) := lN_1 k
      have hb : (k + 1) * (k + 1) ≤ 1001 * 1001 := Nat.mul_le_mul (by omega) (by omega)
      rw [if_pos (show lN k < (1000000 : Int64) from (lN_ltI (b := 1000000) (by omega) (by decide)).mpr (by omega)), nI_l (by omega), e1, lN_mul]
      by_cases c : x < (k + 1) * (k + 1)
      · left
        rw [if_pos ((lN_ltI (by omega) (by omega)).mpr c)]
        exact ⟨_, _, rfl, rfl, k, hk2, rfl, rfl⟩
      · right
        rw [if_neg (fun z => c ((lN_ltI (by omega) (by omega)).mp z))]
        have hk3 : k < 1000 := by
          rcases Nat.lt_or_ge k 1000 with z | z
          · exact z
          · have : k = 1000 := by omega
            subst this
            omega
        exact ⟨1001 - (k + 1), _, _, by omega, rfl, rfl, k + 1, rfl, rfl, by omega, by omega, rfl⟩) KF 1001 (0 : Int64) (0 : Int64) (KF_lt (by decide)) ⟨0, rfl, rfl, by omega, by omega, rfl⟩
  exact ⟨s, hs, h1, h2⟩
