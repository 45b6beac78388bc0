/-! ===== clearing: the answers by determinants ===== -/
def zz (n : Nat) (p : Nat → Nat → Int) (k : Nat) : Int :=
  match n with
  | 1 => p 0 1
  | 2 => if k = 0 then -(m1 (p 0) 1 (p 1) 2) else m1 (p 0) 0 (p 1) 2
  | 3 => if k = 0 then m2 (p 0) (p 1) 1 2 (p 2) 3 else if k = 1 then -(m2 (p 0) (p 1) 0 2 (p 2) 3) else m2 (p 0) (p 1) 0 1 (p 2) 3
  | _ => if k = 0 then -(m3 (p 0) (p 1) (p 2) 1 2 3 (p 3) 4) else if k = 1 then m3 (p 0) (p 1) (p 2) 0 2 3 (p 3) 4 else if k = 2 then -(m3 (p 0) (p 1) (p 2) 0 1 3 (p 3) 4) else m3 (p 0) (p 1) (p 2) 0 1 2 (p 3) 4
def dd (n : Nat) (p : Nat → Nat → Int) : Int :=
  match n with
  | 1 => p 0 0
  | 2 => m1 (p 0) 0 (p 1) 1
  | 3 => m2 (p 0) (p 1) 0 1 (p 2) 2
  | _ => m3 (p 0) (p 1) (p 2) 0 1 2 (p 3) 3
def sa (f : Nat → Int) : Nat → Int
  | 0 => 0
  | i + 1 => sa f i + f i
theorem cr1_0 (p : Nat → Nat → Int) : p 0 0 * (p 0 1) = p 0 1 * (p 0 0) := by
  generalize p 0 0 = a00
  generalize p 0 1 = a01
  grind
theorem cr2_0 (p : Nat → Nat → Int) : p 0 0 * (-(m1 (p 0) 1 (p 1) 2)) + p 0 1 * (m1 (p 0) 0 (p 1) 2) = p 0 2 * (m1 (p 0) 0 (p 1) 1) := by
  unfold m1
  generalize p 0 0 = a00
  generalize p 0 1 = a01
  generalize p 0 2 = a02
  generalize p 1 0 = a10
  generalize p 1 1 = a11
  generalize p 1 2 = a12
  grind
theorem cr2_1 (p : Nat → Nat → Int) : p 1 0 * (-(m1 (p 0) 1 (p 1) 2)) + p 1 1 * (m1 (p 0) 0 (p 1) 2) = p 1 2 * (m1 (p 0) 0 (p 1) 1) := by
  unfold m1
  generalize p 0 0 = a00
  generalize p 0 1 = a01
  generalize p 0 2 = a02
  generalize p 1 0 = a10
  generalize p 1 1 = a11
  generalize p 1 2 = a12
  grind
theorem cr3_0 (p : Nat → Nat → Int) : p 0 0 * (m2 (p 0) (p 1) 1 2 (p 2) 3) + p 0 1 * (-(m2 (p 0) (p 1) 0 2 (p 2) 3)) + p 0 2 * (m2 (p 0) (p 1) 0 1 (p 2) 3) = p 0 3 * (m2 (p 0) (p 1) 0 1 (p 2) 2) := by
  unfold m2
  generalize p 0 0 = a00
  generalize p 0 1 = a01
  generalize p 0 2 = a02
  generalize p 0 3 = a03
  generalize p 1 0 = a10
  generalize p 1 1 = a11
  generalize p 1 2 = a12
  generalize p 1 3 = a13
  generalize p 2 0 = a20
  generalize p 2 1 = a21
  generalize p 2 2 = a22
  generalize p 2 3 = a23
  grind
theorem cr3_1 (p : Nat → Nat → Int) : p 1 0 * (m2 (p 0) (p 1) 1 2 (p 2) 3) + p 1 1 * (-(m2 (p 0) (p 1) 0 2 (p 2) 3)) + p 1 2 * (m2 (p 0) (p 1) 0 1 (p 2) 3) = p 1 3 * (m2 (p 0) (p 1) 0 1 (p 2) 2) := by
  unfold m2
  generalize p 0 0 = a00
  generalize p 0 1 = a01
  generalize p 0 2 = a02
  generalize p 0 3 = a03
  generalize p 1 0 = a10
  generalize p 1 1 = a11
  generalize p 1 2 = a12
  generalize p 1 3 = a13
  generalize p 2 0 = a20
  generalize p 2 1 = a21
  generalize p 2 2 = a22
  generalize p 2 3 = a23
  grind
theorem cr3_2 (p : Nat → Nat → Int) : p 2 0 * (m2 (p 0) (p 1) 1 2 (p 2) 3) + p 2 1 * (-(m2 (p 0) (p 1) 0 2 (p 2) 3)) + p 2 2 * (m2 (p 0) (p 1) 0 1 (p 2) 3) = p 2 3 * (m2 (p 0) (p 1) 0 1 (p 2) 2) := by
  unfold m2
  generalize p 0 0 = a00
  generalize p 0 1 = a01
  generalize p 0 2 = a02
  generalize p 0 3 = a03
  generalize p 1 0 = a10
  generalize p 1 1 = a11
  generalize p 1 2 = a12
  generalize p 1 3 = a13
  generalize p 2 0 = a20
  generalize p 2 1 = a21
  generalize p 2 2 = a22
  generalize p 2 3 = a23
  grind
theorem cr4_0 (p : Nat → Nat → Int) : p 0 0 * (-(m3 (p 0) (p 1) (p 2) 1 2 3 (p 3) 4)) + p 0 1 * (m3 (p 0) (p 1) (p 2) 0 2 3 (p 3) 4) + p 0 2 * (-(m3 (p 0) (p 1) (p 2) 0 1 3 (p 3) 4)) + p 0 3 * (m3 (p 0) (p 1) (p 2) 0 1 2 (p 3) 4) = p 0 4 * (m3 (p 0) (p 1) (p 2) 0 1 2 (p 3) 3) := by
  unfold m3 m2
  generalize p 0 0 = a00
  generalize p 0 1 = a01
  generalize p 0 2 = a02
  generalize p 0 3 = a03
  generalize p 0 4 = a04
  generalize p 1 0 = a10
  generalize p 1 1 = a11
  generalize p 1 2 = a12
  generalize p 1 3 = a13
  generalize p 1 4 = a14
  generalize p 2 0 = a20
  generalize p 2 1 = a21
  generalize p 2 2 = a22
  generalize p 2 3 = a23
  generalize p 2 4 = a24
  generalize p 3 0 = a30
  generalize p 3 1 = a31
  generalize p 3 2 = a32
  generalize p 3 3 = a33
  generalize p 3 4 = a34
  grind
theorem cr4_1 (p : Nat → Nat → Int) : p 1 0 * (-(m3 (p 0) (p 1) (p 2) 1 2 3 (p 3) 4)) + p 1 1 * (m3 (p 0) (p 1) (p 2) 0 2 3 (p 3) 4) + p 1 2 * (-(m3 (p 0) (p 1) (p 2) 0 1 3 (p 3) 4)) + p 1 3 * (m3 (p 0) (p 1) (p 2) 0 1 2 (p 3) 4) = p 1 4 * (m3 (p 0) (p 1) (p 2) 0 1 2 (p 3) 3) := by
  unfold m3 m2
  generalize p 0 0 = a00
  generalize p 0 1 = a01
  generalize p 0 2 = a02
  generalize p 0 3 = a03
  generalize p 0 4 = a04
  generalize p 1 0 = a10
  generalize p 1 1 = a11
  generalize p 1 2 = a12
  generalize p 1 3 = a13
  generalize p 1 4 = a14
  generalize p 2 0 = a20
  generalize p 2 1 = a21
  generalize p 2 2 = a22
  generalize p 2 3 = a23
  generalize p 2 4 = a24
  generalize p 3 0 = a30
  generalize p 3 1 = a31
  generalize p 3 2 = a32
  generalize p 3 3 = a33
  generalize p 3 4 = a34
  grind
theorem cr4_2 (p : Nat → Nat → Int) : p 2 0 * (-(m3 (p 0) (p 1) (p 2) 1 2 3 (p 3) 4)) + p 2 1 * (m3 (p 0) (p 1) (p 2) 0 2 3 (p 3) 4) + p 2 2 * (-(m3 (p 0) (p 1) (p 2) 0 1 3 (p 3) 4)) + p 2 3 * (m3 (p 0) (p 1) (p 2) 0 1 2 (p 3) 4) = p 2 4 * (m3 (p 0) (p 1) (p 2) 0 1 2 (p 3) 3) := by
  unfold m3 m2
  generalize p 0 0 = a00
  generalize p 0 1 = a01
  generalize p 0 2 = a02
  generalize p 0 3 = a03
  generalize p 0 4 = a04
  generalize p 1 0 = a10
  generalize p 1 1 = a11
  generalize p 1 2 = a12
  generalize p 1 3 = a13
  generalize p 1 4 = a14
  generalize p 2 0 = a20
  generalize p 2 1 = a21
  generalize p 2 2 = a22
  generalize p 2 3 = a23
  generalize p 2 4 = a24
  generalize p 3 0 = a30
  generalize p 3 1 = a31
  generalize p 3 2 = a32
  generalize p 3 3 = a33
  generalize p 3 4 = a34
  grind
theorem cr4_3 (p : Nat → Nat → Int) : p 3 0 * (-(m3 (p 0) (p 1) (p 2) 1 2 3 (p 3) 4)) + p 3 1 * (m3 (p 0) (p 1) (p 2) 0 2 3 (p 3) 4) + p 3 2 * (-(m3 (p 0) (p 1) (p 2) 0 1 3 (p 3) 4)) + p 3 3 * (m3 (p 0) (p 1) (p 2) 0 1 2 (p 3) 4) = p 3 4 * (m3 (p 0) (p 1) (p 2) 0 1 2 (p 3) 3) := by
  unfold m3 m2
  generalize p 0 0 = a00
  generalize p 0 1 = a01
  generalize p 0 2 = a02
  generalize p 0 3 = a03
  generalize p 0 4 = a04
  generalize p 1 0 = a10
  generalize p 1 1 = a11
  generalize p 1 2 = a12
  generalize p 1 3 = a13
  generalize p 1 4 = a14
  generalize p 2 0 = a20
  generalize p 2 1 = a21
  generalize p 2 2 = a22
  generalize p 2 3 = a23
  generalize p 2 4 = a24
  generalize p 3 0 = a30
  generalize p 3 1 = a31
  generalize p 3 2 = a32
  generalize p 3 3 = a33
  generalize p 3 4 = a34
  grind
theorem cramer {n : Nat} (hn1 : 1 ≤ n) (hn : n ≤ 4) (p : Nat → Nat → Int) {s : Nat} (hs : s < n) : sa (fun i => p s i * zz n p i) n = p s n * dd n p := by
  rcases (show n = 1 ∨ n = 2 ∨ n = 3 ∨ n = 4 by omega) with rfl | rfl | rfl | rfl
  · have e : s = 0 := by omega
    subst e
    exact (Int.zero_add _).trans (cr1_0 p)
  · rcases (show s = 0 ∨ s = 1 by omega) with rfl | rfl
    · show 0 + p 0 0 * (-(m1 (p 0) 1 (p 1) 2)) + p 0 1 * (m1 (p 0) 0 (p 1) 2) = p 0 2 * (m1 (p 0) 0 (p 1) 1)
      rw [Int.zero_add]
      exact cr2_0 p
    · show 0 + p 1 0 * (-(m1 (p 0) 1 (p 1) 2)) + p 1 1 * (m1 (p 0) 0 (p 1) 2) = p 1 2 * (m1 (p 0) 0 (p 1) 1)
      rw [Int.zero_add]
      exact cr2_1 p
  · rcases (show s = 0 ∨ s = 1 ∨ s = 2 by omega) with rfl | rfl | rfl
    · show 0 + p 0 0 * (m2 (p 0) (p 1) 1 2 (p 2) 3) + p 0 1 * (-(m2 (p 0) (p 1) 0 2 (p 2) 3)) + p 0 2 * (m2 (p 0) (p 1) 0 1 (p 2) 3) = p 0 3 * (m2 (p 0) (p 1) 0 1 (p 2) 2)
      rw [Int.zero_add]
      exact cr3_0 p
    · show 0 + p 1 0 * (m2 (p 0) (p 1) 1 2 (p 2) 3) + p 1 1 * (-(m2 (p 0) (p 1) 0 2 (p 2) 3)) + p 1 2 * (m2 (p 0) (p 1) 0 1 (p 2) 3) = p 1 3 * (m2 (p 0) (p 1) 0 1 (p 2) 2)
      rw [Int.zero_add]
      exact cr3_1 p
    · show 0 + p 2 0 * (m2 (p 0) (p 1) 1 2 (p 2) 3) + p 2 1 * (-(m2 (p 0) (p 1) 0 2 (p 2) 3)) + p 2 2 * (m2 (p 0) (p 1) 0 1 (p 2) 3) = p 2 3 * (m2 (p 0) (p 1) 0 1 (p 2) 2)
      rw [Int.zero_add]
      exact cr3_2 p
  · rcases (show s = 0 ∨ s = 1 ∨ s = 2 ∨ s = 3 by omega) with rfl | rfl | rfl | rfl
    · show 0 + p 0 0 * (-(m3 (p 0) (p 1) (p 2) 1 2 3 (p 3) 4)) + p 0 1 * (m3 (p 0) (p 1) (p 2) 0 2 3 (p 3) 4) + p 0 2 * (-(m3 (p 0) (p 1) (p 2) 0 1 3 (p 3) 4)) + p 0 3 * (m3 (p 0) (p 1) (p 2) 0 1 2 (p 3) 4) = p 0 4 * (m3 (p 0) (p 1) (p 2) 0 1 2 (p 3) 3)
      rw [Int.zero_add]
      exact cr4_0 p
    · show 0 + p 1 0 * (-(m3 (p 0) (p 1) (p 2) 1 2 3 (p 3) 4)) + p 1 1 * (m3 (p 0) (p 1) (p 2) 0 2 3 (p 3) 4) + p 1 2 * (-(m3 (p 0) (p 1) (p 2) 0 1 3 (p 3) 4)) + p 1 3 * (m3 (p 0) (p 1) (p 2) 0 1 2 (p 3) 4) = p 1 4 * (m3 (p 0) (p 1) (p 2) 0 1 2 (p 3) 3)
      rw [Int.zero_add]
      exact cr4_1 p
    · show 0 + p 2 0 * (-(m3 (p 0) (p 1) (p 2) 1 2 3 (p 3) 4)) + p 2 1 * (m3 (p 0) (p 1) (p 2) 0 2 3 (p 3) 4) + p 2 2 * (-(m3 (p 0) (p 1) (p 2) 0 1 3 (p 3) 4)) + p 2 3 * (m3 (p 0) (p 1) (p 2) 0 1 2 (p 3) 4) = p 2 4 * (m3 (p 0) (p 1) (p 2) 0 1 2 (p 3) 3)
      rw [Int.zero_add]
      exact cr4_2 p
    · show 0 + p 3 0 * (-(m3 (p 0) (p 1) (p 2) 1 2 3 (p 3) 4)) + p 3 1 * (m3 (p 0) (p 1) (p 2) 0 2 3 (p 3) 4) + p 3 2 * (-(m3 (p 0) (p 1) (p 2) 0 1 3 (p 3) 4)) + p 3 3 * (m3 (p 0) (p 1) (p 2) 0 1 2 (p 3) 4) = p 3 4 * (m3 (p 0) (p 1) (p 2) 0 1 2 (p 3) 3)
      rw [Int.zero_add]
      exact cr4_3 p
theorem dz1_0 (e p : Nat → Nat → Int) (h : ∀ i, i < 1 → ∀ c, c < 1 → e i c = if c = 0 then p i 1 else p i c) : dsum 1 e 1 = zz 1 p 0 := by
  have e00 : e 0 0 = p 0 1 := h 0 (by omega) 0 (by omega)
  rw [det1_eq, e00]
  show _ = p 0 1
  generalize p 0 0 = a00
  generalize p 0 1 = a01
  grind
theorem dz1_d (e p : Nat → Nat → Int) (h : ∀ i, i < 1 → ∀ c, c < 1 → e i c = p i c) : dsum 1 e 1 = dd 1 p := by
  have e00 : e 0 0 = p 0 0 := h 0 (by omega) 0 (by omega)
  rw [det1_eq, e00]
  show _ = p 0 0
  generalize p 0 0 = a00
  generalize p 0 1 = a01
  grind
theorem dz2_0 (e p : Nat → Nat → Int) (h : ∀ i, i < 2 → ∀ c, c < 2 → e i c = if c = 0 then p i 2 else p i c) : dsum 2 e 4 = zz 2 p 0 := by
  have e00 : e 0 0 = p 0 2 := h 0 (by omega) 0 (by omega)
  have e01 : e 0 1 = p 0 1 := h 0 (by omega) 1 (by omega)
  have e10 : e 1 0 = p 1 2 := h 1 (by omega) 0 (by omega)
  have e11 : e 1 1 = p 1 1 := h 1 (by omega) 1 (by omega)
  rw [det2_eq, e00, e01, e10, e11]
  show _ = -(m1 (p 0) 1 (p 1) 2)
  unfold m1
  generalize p 0 0 = a00
  generalize p 0 1 = a01
  generalize p 0 2 = a02
  generalize p 1 0 = a10
  generalize p 1 1 = a11
  generalize p 1 2 = a12
  grind
theorem dz2_1 (e p : Nat → Nat → Int) (h : ∀ i, i < 2 → ∀ c, c < 2 → e i c = if c = 1 then p i 2 else p i c) : dsum 2 e 4 = zz 2 p 1 := by
  have e00 : e 0 0 = p 0 0 := h 0 (by omega) 0 (by omega)
  have e01 : e 0 1 = p 0 2 := h 0 (by omega) 1 (by omega)
  have e10 : e 1 0 = p 1 0 := h 1 (by omega) 0 (by omega)
  have e11 : e 1 1 = p 1 2 := h 1 (by omega) 1 (by omega)
  rw [det2_eq, e00, e01, e10, e11]
  show _ = m1 (p 0) 0 (p 1) 2
  unfold m1
  generalize p 0 0 = a00
  generalize p 0 1 = a01
  generalize p 0 2 = a02
  generalize p 1 0 = a10
  generalize p 1 1 = a11
  generalize p 1 2 = a12
  grind
theorem dz2_d (e p : Nat → Nat → Int) (h : ∀ i, i < 2 → ∀ c, c < 2 → e i c = p i c) : dsum 2 e 4 = dd 2 p := by
  have e00 : e 0 0 = p 0 0 := h 0 (by omega) 0 (by omega)
  have e01 : e 0 1 = p 0 1 := h 0 (by omega) 1 (by omega)
  have e10 : e 1 0 = p 1 0 := h 1 (by omega) 0 (by omega)
  have e11 : e 1 1 = p 1 1 := h 1 (by omega) 1 (by omega)
  rw [det2_eq, e00, e01, e10, e11]
  show _ = m1 (p 0) 0 (p 1) 1
  unfold m1
  generalize p 0 0 = a00
  generalize p 0 1 = a01
  generalize p 0 2 = a02
  generalize p 1 0 = a10
  generalize p 1 1 = a11
  generalize p 1 2 = a12
  grind
theorem dz3_0 (e p : Nat → Nat → Int) (h : ∀ i, i < 3 → ∀ c, c < 3 → e i c = if c = 0 then p i 3 else p i c) : dsum 3 e 27 = zz 3 p 0 := by
  have e00 : e 0 0 = p 0 3 := h 0 (by omega) 0 (by omega)
  have e01 : e 0 1 = p 0 1 := h 0 (by omega) 1 (by omega)
  have e02 : e 0 2 = p 0 2 := h 0 (by omega) 2 (by omega)
  have e10 : e 1 0 = p 1 3 := h 1 (by omega) 0 (by omega)
  have e11 : e 1 1 = p 1 1 := h 1 (by omega) 1 (by omega)
  have e12 : e 1 2 = p 1 2 := h 1 (by omega) 2 (by omega)
  have e20 : e 2 0 = p 2 3 := h 2 (by omega) 0 (by omega)
  have e21 : e 2 1 = p 2 1 := h 2 (by omega) 1 (by omega)
  have e22 : e 2 2 = p 2 2 := h 2 (by omega) 2 (by omega)
  rw [det3_eq, e00, e01, e02, e10, e11, e12, e20, e21, e22]
  show _ = m2 (p 0) (p 1) 1 2 (p 2) 3
  unfold m2
  generalize p 0 0 = a00
  generalize p 0 1 = a01
  generalize p 0 2 = a02
  generalize p 0 3 = a03
  generalize p 1 0 = a10
  generalize p 1 1 = a11
  generalize p 1 2 = a12
  generalize p 1 3 = a13
  generalize p 2 0 = a20
  generalize p 2 1 = a21
  generalize p 2 2 = a22
  generalize p 2 3 = a23
  grind
theorem dz3_1 (e p : Nat → Nat → Int) (h : ∀ i, i < 3 → ∀ c, c < 3 → e i c = if c = 1 then p i 3 else p i c) : dsum 3 e 27 = zz 3 p 1 := by
  have e00 : e 0 0 = p 0 0 := h 0 (by omega) 0 (by omega)
  have e01 : e 0 1 = p 0 3 := h 0 (by omega) 1 (by omega)
  have e02 : e 0 2 = p 0 2 := h 0 (by omega) 2 (by omega)
  have e10 : e 1 0 = p 1 0 := h 1 (by omega) 0 (by omega)
  have e11 : e 1 1 = p 1 3 := h 1 (by omega) 1 (by omega)
  have e12 : e 1 2 = p 1 2 := h 1 (by omega) 2 (by omega)
  have e20 : e 2 0 = p 2 0 := h 2 (by omega) 0 (by omega)
  have e21 : e 2 1 = p 2 3 := h 2 (by omega) 1 (by omega)
  have e22 : e 2 2 = p 2 2 := h 2 (by omega) 2 (by omega)
  rw [det3_eq, e00, e01, e02, e10, e11, e12, e20, e21, e22]
  show _ = -(m2 (p 0) (p 1) 0 2 (p 2) 3)
  unfold m2
  generalize p 0 0 = a00
  generalize p 0 1 = a01
  generalize p 0 2 = a02
  generalize p 0 3 = a03
  generalize p 1 0 = a10
  generalize p 1 1 = a11
  generalize p 1 2 = a12
  generalize p 1 3 = a13
  generalize p 2 0 = a20
  generalize p 2 1 = a21
  generalize p 2 2 = a22
  generalize p 2 3 = a23
  grind
theorem dz3_2 (e p : Nat → Nat → Int) (h : ∀ i, i < 3 → ∀ c, c < 3 → e i c = if c = 2 then p i 3 else p i c) : dsum 3 e 27 = zz 3 p 2 := by
  have e00 : e 0 0 = p 0 0 := h 0 (by omega) 0 (by omega)
  have e01 : e 0 1 = p 0 1 := h 0 (by omega) 1 (by omega)
  have e02 : e 0 2 = p 0 3 := h 0 (by omega) 2 (by omega)
  have e10 : e 1 0 = p 1 0 := h 1 (by omega) 0 (by omega)
  have e11 : e 1 1 = p 1 1 := h 1 (by omega) 1 (by omega)
  have e12 : e 1 2 = p 1 3 := h 1 (by omega) 2 (by omega)
  have e20 : e 2 0 = p 2 0 := h 2 (by omega) 0 (by omega)
  have e21 : e 2 1 = p 2 1 := h 2 (by omega) 1 (by omega)
  have e22 : e 2 2 = p 2 3 := h 2 (by omega) 2 (by omega)
  rw [det3_eq, e00, e01, e02, e10, e11, e12, e20, e21, e22]
  show _ = m2 (p 0) (p 1) 0 1 (p 2) 3
  unfold m2
  generalize p 0 0 = a00
  generalize p 0 1 = a01
  generalize p 0 2 = a02
  generalize p 0 3 = a03
  generalize p 1 0 = a10
  generalize p 1 1 = a11
  generalize p 1 2 = a12
  generalize p 1 3 = a13
  generalize p 2 0 = a20
  generalize p 2 1 = a21
  generalize p 2 2 = a22
  generalize p 2 3 = a23
  grind
theorem dz3_d (e p : Nat → Nat → Int) (h : ∀ i, i < 3 → ∀ c, c < 3 → e i c = p i c) : dsum 3 e 27 = dd 3 p := by
  have e00 : e 0 0 = p 0 0 := h 0 (by omega) 0 (by omega)
  have e01 : e 0 1 = p 0 1 := h 0 (by omega) 1 (by omega)
  have e02 : e 0 2 = p 0 2 := h 0 (by omega) 2 (by omega)
  have e10 : e 1 0 = p 1 0 := h 1 (by omega) 0 (by omega)
  have e11 : e 1 1 = p 1 1 := h 1 (by omega) 1 (by omega)
  have e12 : e 1 2 = p 1 2 := h 1 (by omega) 2 (by omega)
  have e20 : e 2 0 = p 2 0 := h 2 (by omega) 0 (by omega)
  have e21 : e 2 1 = p 2 1 := h 2 (by omega) 1 (by omega)
  have e22 : e 2 2 = p 2 2 := h 2 (by omega) 2 (by omega)
  rw [det3_eq, e00, e01, e02, e10, e11, e12, e20, e21, e22]
  show _ = m2 (p 0) (p 1) 0 1 (p 2) 2
  unfold m2
  generalize p 0 0 = a00
  generalize p 0 1 = a01
  generalize p 0 2 = a02
  generalize p 0 3 = a03
  generalize p 1 0 = a10
  generalize p 1 1 = a11
  generalize p 1 2 = a12
  generalize p 1 3 = a13
  generalize p 2 0 = a20
  generalize p 2 1 = a21
  generalize p 2 2 = a22
  generalize p 2 3 = a23
  grind
theorem dz4_0 (e p : Nat → Nat → Int) (h : ∀ i, i < 4 → ∀ c, c < 4 → e i c = if c = 0 then p i 4 else p i c) : dsum 4 e 256 = zz 4 p 0 := by
  have e00 : e 0 0 = p 0 4 := h 0 (by omega) 0 (by omega)
  have e01 : e 0 1 = p 0 1 := h 0 (by omega) 1 (by omega)
  have e02 : e 0 2 = p 0 2 := h 0 (by omega) 2 (by omega)
  have e03 : e 0 3 = p 0 3 := h 0 (by omega) 3 (by omega)
  have e10 : e 1 0 = p 1 4 := h 1 (by omega) 0 (by omega)
  have e11 : e 1 1 = p 1 1 := h 1 (by omega) 1 (by omega)
  have e12 : e 1 2 = p 1 2 := h 1 (by omega) 2 (by omega)
  have e13 : e 1 3 = p 1 3 := h 1 (by omega) 3 (by omega)
  have e20 : e 2 0 = p 2 4 := h 2 (by omega) 0 (by omega)
  have e21 : e 2 1 = p 2 1 := h 2 (by omega) 1 (by omega)
  have e22 : e 2 2 = p 2 2 := h 2 (by omega) 2 (by omega)
  have e23 : e 2 3 = p 2 3 := h 2 (by omega) 3 (by omega)
  have e30 : e 3 0 = p 3 4 := h 3 (by omega) 0 (by omega)
  have e31 : e 3 1 = p 3 1 := h 3 (by omega) 1 (by omega)
  have e32 : e 3 2 = p 3 2 := h 3 (by omega) 2 (by omega)
  have e33 : e 3 3 = p 3 3 := h 3 (by omega) 3 (by omega)
  rw [det4_eq, e00, e01, e02, e03, e10, e11, e12, e13, e20, e21, e22, e23, e30, e31, e32, e33]
  show _ = -(m3 (p 0) (p 1) (p 2) 1 2 3 (p 3) 4)
  unfold m3 m2
  generalize p 0 0 = a00
  generalize p 0 1 = a01
  generalize p 0 2 = a02
  generalize p 0 3 = a03
  generalize p 0 4 = a04
  generalize p 1 0 = a10
  generalize p 1 1 = a11
  generalize p 1 2 = a12
  generalize p 1 3 = a13
  generalize p 1 4 = a14
  generalize p 2 0 = a20
  generalize p 2 1 = a21
  generalize p 2 2 = a22
  generalize p 2 3 = a23
  generalize p 2 4 = a24
  generalize p 3 0 = a30
  generalize p 3 1 = a31
  generalize p 3 2 = a32
  generalize p 3 3 = a33
  generalize p 3 4 = a34
  grind
theorem dz4_1 (e p : Nat → Nat → Int) (h : ∀ i, i < 4 → ∀ c, c < 4 → e i c = if c = 1 then p i 4 else p i c) : dsum 4 e 256 = zz 4 p 1 := by
  have e00 : e 0 0 = p 0 0 := h 0 (by omega) 0 (by omega)
  have e01 : e 0 1 = p 0 4 := h 0 (by omega) 1 (by omega)
  have e02 : e 0 2 = p 0 2 := h 0 (by omega) 2 (by omega)
  have e03 : e 0 3 = p 0 3 := h 0 (by omega) 3 (by omega)
  have e10 : e 1 0 = p 1 0 := h 1 (by omega) 0 (by omega)
  have e11 : e 1 1 = p 1 4 := h 1 (by omega) 1 (by omega)
  have e12 : e 1 2 = p 1 2 := h 1 (by omega) 2 (by omega)
  have e13 : e 1 3 = p 1 3 := h 1 (by omega) 3 (by omega)
  have e20 : e 2 0 = p 2 0 := h 2 (by omega) 0 (by omega)
  have e21 : e 2 1 = p 2 4 := h 2 (by omega) 1 (by omega)
  have e22 : e 2 2 = p 2 2 := h 2 (by omega) 2 (by omega)
  have e23 : e 2 3 = p 2 3 := h 2 (by omega) 3 (by omega)
  have e30 : e 3 0 = p 3 0 := h 3 (by omega) 0 (by omega)
  have e31 : e 3 1 = p 3 4 := h 3 (by omega) 1 (by omega)
  have e32 : e 3 2 = p 3 2 := h 3 (by omega) 2 (by omega)
  have e33 : e 3 3 = p 3 3 := h 3 (by omega) 3 (by omega)
  rw [det4_eq, e00, e01, e02, e03, e10, e11, e12, e13, e20, e21, e22, e23, e30, e31, e32, e33]
  show _ = m3 (p 0) (p 1) (p 2) 0 2 3 (p 3) 4
  unfold m3 m2
  generalize p 0 0 = a00
  generalize p 0 1 = a01
  generalize p 0 2 = a02
  generalize p 0 3 = a03
  generalize p 0 4 = a04
  generalize p 1 0 = a10
  generalize p 1 1 = a11
  generalize p 1 2 = a12
  generalize p 1 3 = a13
  generalize p 1 4 = a14
  generalize p 2 0 = a20
  generalize p 2 1 = a21
  generalize p 2 2 = a22
  generalize p 2 3 = a23
  generalize p 2 4 = a24
  generalize p 3 0 = a30
  generalize p 3 1 = a31
  generalize p 3 2 = a32
  generalize p 3 3 = a33
  generalize p 3 4 = a34
  grind
theorem dz4_2 (e p : Nat → Nat → Int) (h : ∀ i, i < 4 → ∀ c, c < 4 → e i c = if c = 2 then p i 4 else p i c) : dsum 4 e 256 = zz 4 p 2 := by
  have e00 : e 0 0 = p 0 0 := h 0 (by omega) 0 (by omega)
  have e01 : e 0 1 = p 0 1 := h 0 (by omega) 1 (by omega)
  have e02 : e 0 2 = p 0 4 := h 0 (by omega) 2 (by omega)
  have e03 : e 0 3 = p 0 3 := h 0 (by omega) 3 (by omega)
  have e10 : e 1 0 = p 1 0 := h 1 (by omega) 0 (by omega)
  have e11 : e 1 1 = p 1 1 := h 1 (by omega) 1 (by omega)
  have e12 : e 1 2 = p 1 4 := h 1 (by omega) 2 (by omega)
  have e13 : e 1 3 = p 1 3 := h 1 (by omega) 3 (by omega)
  have e20 : e 2 0 = p 2 0 := h 2 (by omega) 0 (by omega)
  have e21 : e 2 1 = p 2 1 := h 2 (by omega) 1 (by omega)
  have e22 : e 2 2 = p 2 4 := h 2 (by omega) 2 (by omega)
  have e23 : e 2 3 = p 2 3 := h 2 (by omega) 3 (by omega)
  have e30 : e 3 0 = p 3 0 := h 3 (by omega) 0 (by omega)
  have e31 : e 3 1 = p 3 1 := h 3 (by omega) 1 (by omega)
  have e32 : e 3 2 = p 3 4 := h 3 (by omega) 2 (by omega)
  have e33 : e 3 3 = p 3 3 := h 3 (by omega) 3 (by omega)
  rw [det4_eq, e00, e01, e02, e03, e10, e11, e12, e13, e20, e21, e22, e23, e30, e31, e32, e33]
  show _ = -(m3 (p 0) (p 1) (p 2) 0 1 3 (p 3) 4)
  unfold m3 m2
  generalize p 0 0 = a00
  generalize p 0 1 = a01
  generalize p 0 2 = a02
  generalize p 0 3 = a03
  generalize p 0 4 = a04
  generalize p 1 0 = a10
  generalize p 1 1 = a11
  generalize p 1 2 = a12
  generalize p 1 3 = a13
  generalize p 1 4 = a14
  generalize p 2 0 = a20
  generalize p 2 1 = a21
  generalize p 2 2 = a22
  generalize p 2 3 = a23
  generalize p 2 4 = a24
  generalize p 3 0 = a30
  generalize p 3 1 = a31
  generalize p 3 2 = a32
  generalize p 3 3 = a33
  generalize p 3 4 = a34
  grind
theorem dz4_3 (e p : Nat → Nat → Int) (h : ∀ i, i < 4 → ∀ c, c < 4 → e i c = if c = 3 then p i 4 else p i c) : dsum 4 e 256 = zz 4 p 3 := by
  have e00 : e 0 0 = p 0 0 := h 0 (by omega) 0 (by omega)
  have e01 : e 0 1 = p 0 1 := h 0 (by omega) 1 (by omega)
  have e02 : e 0 2 = p 0 2 := h 0 (by omega) 2 (by omega)
  have e03 : e 0 3 = p 0 4 := h 0 (by omega) 3 (by omega)
  have e10 : e 1 0 = p 1 0 := h 1 (by omega) 0 (by omega)
  have e11 : e 1 1 = p 1 1 := h 1 (by omega) 1 (by omega)
  have e12 : e 1 2 = p 1 2 := h 1 (by omega) 2 (by omega)
  have e13 : e 1 3 = p 1 4 := h 1 (by omega) 3 (by omega)
  have e20 : e 2 0 = p 2 0 := h 2 (by omega) 0 (by omega)
  have e21 : e 2 1 = p 2 1 := h 2 (by omega) 1 (by omega)
  have e22 : e 2 2 = p 2 2 := h 2 (by omega) 2 (by omega)
  have e23 : e 2 3 = p 2 4 := h 2 (by omega) 3 (by omega)
  have e30 : e 3 0 = p 3 0 := h 3 (by omega) 0 (by omega)
  have e31 : e 3 1 = p 3 1 := h 3 (by omega) 1 (by omega)
  have e32 : e 3 2 = p 3 2 := h 3 (by omega) 2 (by omega)
  have e33 : e 3 3 = p 3 4 := h 3 (by omega) 3 (by omega)
  rw [det4_eq, e00, e01, e02, e03, e10, e11, e12, e13, e20, e21, e22, e23, e30, e31, e32, e33]
  show _ = m3 (p 0) (p 1) (p 2) 0 1 2 (p 3) 4
  unfold m3 m2
  generalize p 0 0 = a00
  generalize p 0 1 = a01
  generalize p 0 2 = a02
  generalize p 0 3 = a03
  generalize p 0 4 = a04
  generalize p 1 0 = a10
  generalize p 1 1 = a11
  generalize p 1 2 = a12
  generalize p 1 3 = a13
  generalize p 1 4 = a14
  generalize p 2 0 = a20
  generalize p 2 1 = a21
  generalize p 2 2 = a22
  generalize p 2 3 = a23
  generalize p 2 4 = a24
  generalize p 3 0 = a30
  generalize p 3 1 = a31
  generalize p 3 2 = a32
  generalize p 3 3 = a33
  generalize p 3 4 = a34
  grind
theorem dz4_d (e p : Nat → Nat → Int) (h : ∀ i, i < 4 → ∀ c, c < 4 → e i c = p i c) : dsum 4 e 256 = dd 4 p := by
  have e00 : e 0 0 = p 0 0 := h 0 (by omega) 0 (by omega)
  have e01 : e 0 1 = p 0 1 := h 0 (by omega) 1 (by omega)
  have e02 : e 0 2 = p 0 2 := h 0 (by omega) 2 (by omega)
  have e03 : e 0 3 = p 0 3 := h 0 (by omega) 3 (by omega)
  have e10 : e 1 0 = p 1 0 := h 1 (by omega) 0 (by omega)
  have e11 : e 1 1 = p 1 1 := h 1 (by omega) 1 (by omega)
  have e12 : e 1 2 = p 1 2 := h 1 (by omega) 2 (by omega)
  have e13 : e 1 3 = p 1 3 := h 1 (by omega) 3 (by omega)
  have e20 : e 2 0 = p 2 0 := h 2 (by omega) 0 (by omega)
  have e21 : e 2 1 = p 2 1 := h 2 (by omega) 1 (by omega)
  have e22 : e 2 2 = p 2 2 := h 2 (by omega) 2 (by omega)
  have e23 : e 2 3 = p 2 3 := h 2 (by omega) 3 (by omega)
  have e30 : e 3 0 = p 3 0 := h 3 (by omega) 0 (by omega)
  have e31 : e 3 1 = p 3 1 := h 3 (by omega) 1 (by omega)
  have e32 : e 3 2 = p 3 2 := h 3 (by omega) 2 (by omega)
  have e33 : e 3 3 = p 3 3 := h 3 (by omega) 3 (by omega)
  rw [det4_eq, e00, e01, e02, e03, e10, e11, e12, e13, e20, e21, e22, e23, e30, e31, e32, e33]
  show _ = m3 (p 0) (p 1) (p 2) 0 1 2 (p 3) 3
  unfold m3 m2
  generalize p 0 0 = a00
  generalize p 0 1 = a01
  generalize p 0 2 = a02
  generalize p 0 3 = a03
  generalize p 0 4 = a04
  generalize p 1 0 = a10
  generalize p 1 1 = a11
  generalize p 1 2 = a12
  generalize p 1 3 = a13
  generalize p 1 4 = a14
  generalize p 2 0 = a20
  generalize p 2 1 = a21
  generalize p 2 2 = a22
  generalize p 2 3 = a23
  generalize p 2 4 = a24
  generalize p 3 0 = a30
  generalize p 3 1 = a31
  generalize p 3 2 = a32
  generalize p 3 3 = a33
  generalize p 3 4 = a34
  grind
theorem det_d {n : Nat} (hn1 : 1 ≤ n) (hn : n ≤ 4) (e p : Nat → Nat → Int) (h : ∀ i, i < n → ∀ c, c < n → e i c = p i c) : dsum n e (n ^ n) = dd n p := by
  rcases (show n = 1 ∨ n = 2 ∨ n = 3 ∨ n = 4 by omega) with rfl | rfl | rfl | rfl
  · exact dz1_d e p h
  · exact dz2_d e p h
  · exact dz3_d e p h
  · exact dz4_d e p h
theorem det_z {n k : Nat} (hn1 : 1 ≤ n) (hn : n ≤ 4) (hk : k < n) (e p : Nat → Nat → Int) (h : ∀ i, i < n → ∀ c, c < n → e i c = if c = k then p i n else p i c) : dsum n e (n ^ n) = zz n p k := by
  rcases (show n = 1 ∨ n = 2 ∨ n = 3 ∨ n = 4 by omega) with rfl | rfl | rfl | rfl
  · have q : k = 0 := by omega
    subst q
    exact dz1_0 e p h
  · rcases (show k = 0 ∨ k = 1 by omega) with rfl | rfl
    · exact dz2_0 e p h
    · exact dz2_1 e p h
  · rcases (show k = 0 ∨ k = 1 ∨ k = 2 by omega) with rfl | rfl | rfl
    · exact dz3_0 e p h
    · exact dz3_1 e p h
    · exact dz3_2 e p h
  · rcases (show k = 0 ∨ k = 1 ∨ k = 2 ∨ k = 3 by omega) with rfl | rfl | rfl | rfl
    · exact dz4_0 e p h
    · exact dz4_1 e p h
    · exact dz4_2 e p h
    · exact dz4_3 e p h
