/-! ===== counts ===== -/
def RE (Xz : Int32) (Xb Xl : Nat → Int32) (Mc : Int32) (Mb Ml : Nat → Int32) : Prop := ∃ (c : Nat) (B L : Nat → Nat), c ≤ 6 ∧ Xz = nI c ∧ Mc = nI c ∧ ∀ i, i < c → Xb i = nI (B i) ∧ Mb i = nI (B i) ∧ Xl i = nI (L i) ∧ Ml i = nI (L i) ∧ 2 ≤ B i ∧ B i ≤ 1000 ∧ L i < B i
def upN (f : Nat → Nat) (k v : Nat) : Nat → Nat := fun j => if j = k then v else f j
theorem upN_at (f : Nat → Nat) (k v : Nat) : upN f k v k = v := if_pos rfl
theorem upN_ne {f : Nat → Nat} {k j v : Nat} (h : j ≠ k) : upN f k v j = f j := if_neg h
theorem lt6 {i : Nat} (h : i < 6) : nI i < (6 : Int32) := nI_lt h (by decide)
theorem ne6 {i : Nat} (h : i < 6) : ¬ nI i = (6 : Int32) := fun q => by
  have := (nI_eq (a := i) (b := 6) (by omega) (by decide)).mp q
  omega
theorem G_count (p0 p1 : Int32) {z b l mc mb ml} (h : RE z b l mc mb ml) : ∃ (r o1 : Int32) (o2 o3 : Nat → Int32) (q1 : Int32) (q2 q3 : Nat → Int32), fX8_count p0 p1 z b l = some (r, o1, o2, o3) ∧ fX9_count p0 p1 mc mb ml = some (r, q1, q2, q3) ∧ RE o1 o2 o3 q1 q2 q3 := by
  unfold fX8_count fX9_count
  obtain ⟨c, B, L, hc, rfl, rfl, h3⟩ := id h
  have e2 : (2 : Int32).toInt = 2 := rfl
  have e1000 : (1000 : Int32).toInt = 1000 := rfl
  have e0 : (0 : Int32).toInt = 0 := rfl
  have e1 : (1 : Int32).toInt = 1 := rfl
  have f2 : (2 : Int64).toInt = 2 := rfl
  have f1000 : (1000 : Int64).toInt = 1000 := rfl
  have f0 : (0 : Int64).toInt = 0 := rfl
  simp only [Int32.lt_iff_toInt_lt, e2, e1000, e0]
  by_cases a1 : 2 ≤ p0.toInt ∧ p0.toInt ≤ 1000
  · rw [if_neg (by omega), if_neg (by omega), in9_y (by rw [t32_to64]; exact a1.1) (by rw [t32_to64]; exact a1.2)]
    have es : ((p0 - 1).toInt64).toInt = p0.toInt - 1 := by rw [t32_to64, t32_sub (by omega) (by omega), e1]
    simp only [Option.bind_some, i10]
    by_cases a2 : 0 ≤ p1.toInt ∧ p1.toInt < p0.toInt
    · rw [if_neg (by omega), if_pos a2.2, in9_y (by rw [t32_to64]; exact a2.1) (by rw [t32_to64, es]; omega)]
      simp only [Option.bind_some, i10, fX2_isFull]
      obtain ⟨x, hx, rfl⟩ : ∃ x : Nat, (2 ≤ x ∧ x ≤ 1000) ∧ p0 = nI x := ⟨p0.toInt.toNat, by omega, nI_of_toInt (by omega)⟩
      obtain ⟨y, rfl⟩ : ∃ y : Nat, p1 = nI y := ⟨p1.toInt.toNat, nI_of_toInt (by omega)⟩
      have hy0 : y < 2 ^ 31 ∨ 2 ^ 31 ≤ y := by omega
      by_cases hf : c < 6
      · rw [if_pos (lt6 hf), if_neg (ne6 hf)]
        simp only [Option.bind_some, i00, fX2_append, fX2_size]
        rw [if_neg (nI_not_neg (by omega)), if_pos (lt6 hf), if_pos (lt6 hf), wrI_n _ hf (by decide), wrI_n _ hf (by decide), wrI_n _ hf (by decide), wrI_n _ hf (by decide)]
        simp only [bn3, Option.bind_some, nI_inc]
        sorry
      · have : c = 6 := by omega
        subst this
        rw [if_neg (by decide), if_pos (show nI 6 = (6 : Int32) from rfl)]
        exact ⟨_, _, _, _, _, _, _, rfl, rfl, h⟩
    · rw [in9_no (by rw [t32_to64, es]; show ¬ (0 ≤ p1.toInt ∧ _); omega)]
      refine ⟨-2, _, _, _, _, _, _, ?_, rfl, h⟩
      by_cases a3 : p1.toInt < 0
      · rw [if_pos a3]
      · rw [if_neg a3, if_neg (by omega)]
  · rw [in9_no (by rw [t32_to64]; exact a1)]
    refine ⟨-2, _, _, _, _, _, _, ?_, rfl, h⟩
    by_cases a3 : p0.toInt < 2
    · rw [if_pos a3]
    · rw [if_neg a3, if_pos (by omega)]
