/-! ===== clearing: minors ===== -/
def m1 (p : Nat → Int) (c : Nat) (r : Nat → Int) (i : Nat) : Int := p c * r i - p i * r c
def m2 (p q : Nat → Int) (c d : Nat) (r : Nat → Int) (i : Nat) : Int := p c * (q d * r i - q i * r d) - p d * (q c * r i - q i * r c) + p i * (q c * r d - q d * r c)
def m3 (p q s : Nat → Int) (c d e : Nat) (r : Nat → Int) (i : Nat) : Int := r i * m2 p q c d s e - r e * m2 p q c d s i + r d * m2 p q c e s i - r c * m2 p q d e s i
theorem syl1 (p q r : Nat → Int) (c d i : Nat) : m1 p c r i * m1 p c q d - m1 p c q i * m1 p c r d = p c * m2 p q c d r i := by
  unfold m1 m2
  generalize p c = a1
  generalize p d = a2
  generalize p i = a3
  generalize q c = b1
  generalize q d = b2
  generalize q i = b3
  generalize r c = c1
  generalize r d = c2
  generalize r i = c3
  grind
theorem syl2 (p q s r : Nat → Int) (c d e i : Nat) : m2 p q c d r i * m2 p q c d s e - m2 p q c d s i * m2 p q c d r e = m1 p c q d * m3 p q s c d e r i := by
  unfold m3 m2 m1
  generalize p c = a1
  generalize p d = a2
  generalize p e = a3
  generalize p i = a4
  generalize q c = b1
  generalize q d = b2
  generalize q e = b3
  generalize q i = b4
  generalize s c = c1
  generalize s d = c2
  generalize s e = c3
  generalize s i = c4
  generalize r c = d1
  generalize r d = d2
  generalize r e = d3
  generalize r i = d4
  grind
theorem sub_bnd {x y : Int} {A B : Nat} (hx : x.natAbs ≤ A) (hy : y.natAbs ≤ B) : (x - y).natAbs ≤ A + B := by omega
theorem add_bnd {x y : Int} {A B : Nat} (hx : x.natAbs ≤ A) (hy : y.natAbs ≤ B) : (x + y).natAbs ≤ A + B := by omega
theorem m1_bnd {p r : Nat → Int} {c i W : Nat} (pc : (p c).natAbs ≤ 50) (rc : (r c).natAbs ≤ 50) (pi : (p i).natAbs ≤ W) (ri : (r i).natAbs ≤ W) : (m1 p c r i).natAbs ≤ 100 * W := by
  have h1 := mul_bnd pc ri
  have h2 := mul_bnd pi rc
  have h3 := sub_bnd h1 h2
  unfold m1
  omega
theorem m2_bnd {p q r : Nat → Int} {c d i W : Nat} (pc : (p c).natAbs ≤ 50) (pd : (p d).natAbs ≤ 50) (qc : (q c).natAbs ≤ 50) (qd : (q d).natAbs ≤ 50) (rc : (r c).natAbs ≤ 50) (rd : (r d).natAbs ≤ 50) (pi : (p i).natAbs ≤ W) (qi : (q i).natAbs ≤ W) (ri : (r i).natAbs ≤ W) : (m2 p q c d r i).natAbs ≤ 15000 * W := by
  have h1 := mul_bnd pc (sub_bnd (mul_bnd qd ri) (mul_bnd qi rd))
  have h2 := mul_bnd pd (sub_bnd (mul_bnd qc ri) (mul_bnd qi rc))
  have h3 := mul_bnd pi (sub_bnd (mul_bnd qc rd) (mul_bnd qd rc))
  have h4 := add_bnd (sub_bnd h1 h2) h3
  unfold m2
  omega
theorem m3_bnd {p q s r : Nat → Int} {c d e i W : Nat} (pc : (p c).natAbs ≤ 50) (pd : (p d).natAbs ≤ 50) (pe : (p e).natAbs ≤ 50) (qc : (q c).natAbs ≤ 50) (qd : (q d).natAbs ≤ 50) (qe : (q e).natAbs ≤ 50) (sc : (s c).natAbs ≤ 50) (sd : (s d).natAbs ≤ 50) (se : (s e).natAbs ≤ 50) (rc : (r c).natAbs ≤ 50) (rd : (r d).natAbs ≤ 50) (re : (r e).natAbs ≤ 50) (pi : (p i).natAbs ≤ W) (qi : (q i).natAbs ≤ W) (si : (s i).natAbs ≤ W) (ri : (r i).natAbs ≤ W) : (m3 p q s c d e r i).natAbs ≤ 3000000 * W := by
  have h1 := mul_bnd ri (m2_bnd pc pd qc qd sc sd pe qe se)
  have h2 := mul_bnd re (m2_bnd pc pd qc qd sc sd pi qi si)
  have h3 := mul_bnd rd (m2_bnd pc pe qc qe sc se pi qi si)
  have h4 := mul_bnd rc (m2_bnd pd pe qd qe sd se pi qi si)
  have h5 := sub_bnd (add_bnd (sub_bnd h1 h2) h3) h4
  unfold m3
  omega
/-- the minors of t settled columns with one more, and that of the settled ones -/
def mt (A : Nat → Nat → Int) (F C : Nat → Nat) (t : Nat) (r : Nat → Int) (i : Nat) : Int :=
  match t with
  | 0 => r i
  | 1 => m1 (A (F 0)) (C 0) r i
  | 2 => m2 (A (F 0)) (A (F 1)) (C 0) (C 1) r i
  | _ => m3 (A (F 0)) (A (F 1)) (A (F 2)) (C 0) (C 1) (C 2) r i
def pt (A : Nat → Nat → Int) (F C : Nat → Nat) (t : Nat) : Int :=
  match t with
  | 0 => 1
  | s + 1 => mt A F C s (A (F s)) (C s)
theorem syl (A : Nat → Nat → Int) (F C : Nat → Nat) {t : Nat} (ht : t ≤ 2) (r : Nat → Int) (i : Nat) : mt A F C t r i * mt A F C t (A (F t)) (C t) - mt A F C t (A (F t)) i * mt A F C t r (C t) = pt A F C t * mt A F C (t + 1) r i := by
  rcases (show t = 0 ∨ t = 1 ∨ t = 2 by omega) with rfl | rfl | rfl
  · show r i * A (F 0) (C 0) - A (F 0) i * r (C 0) = 1 * (A (F 0) (C 0) * r i - A (F 0) i * r (C 0))
    rw [Int.one_mul, Int.mul_comm (r i)]
  · exact syl1 _ _ _ _ _ _
  · exact syl2 _ _ _ _ _ _ _ _
theorem mt_congr {A : Nat → Nat → Int} {F C F' C' : Nat → Nat} {t : Nat} (ht : t ≤ 3) (h : ∀ s, s < t → F' s = F s ∧ C' s = C s) (r : Nat → Int) (i : Nat) : mt A F' C' t r i = mt A F C t r i := by
  rcases (show t = 0 ∨ t = 1 ∨ t = 2 ∨ t = 3 by omega) with rfl | rfl | rfl | rfl
  · rfl
  · show m1 _ _ _ _ = m1 _ _ _ _
    rw [(h 0 (by omega)).1, (h 0 (by omega)).2]
  · show m2 _ _ _ _ _ _ = m2 _ _ _ _ _ _
    rw [(h 0 (by omega)).1, (h 0 (by omega)).2, (h 1 (by omega)).1, (h 1 (by omega)).2]
  · show m3 _ _ _ _ _ _ _ _ = m3 _ _ _ _ _ _ _ _
    rw [(h 0 (by omega)).1, (h 0 (by omega)).2, (h 1 (by omega)).1, (h 1 (by omega)).2, (h 2 (by omega)).1, (h 2 (by omega)).2]
theorem pt_congr {A : Nat → Nat → Int} {F C F' C' : Nat → Nat} {t : Nat} (ht : t ≤ 4) (h : ∀ s, s < t → F' s = F s ∧ C' s = C s) : pt A F' C' t = pt A F C t := by
  rcases t with _ | t
  · rfl
  · show mt A F' C' t (A (F' t)) (C' t) = mt A F C t (A (F t)) (C t)
    rw [mt_congr (by omega) (fun s hs => h s (by omega)), (h t (by omega)).1, (h t (by omega)).2]
def bL (t : Nat) : Nat :=
  match t with
  | 0 => 1
  | 1 => 100
  | 2 => 15000
  | _ => 3000000
theorem mt_bnd {A : Nat → Nat → Int} {F C : Nat → Nat} {t : Nat} {r : Nat → Int} {i W : Nat} (hA : ∀ s s', s < t → s' < t → (A (F s) (C s')).natAbs ≤ 50) (hr : ∀ s, s < t → (r (C s)).natAbs ≤ 50) (hAi : ∀ s, s < t → (A (F s) i).natAbs ≤ W) (hri : (r i).natAbs ≤ W) (ht : t ≤ 3) : (mt A F C t r i).natAbs ≤ bL t * W := by
  rcases (show t = 0 ∨ t = 1 ∨ t = 2 ∨ t = 3 by omega) with rfl | rfl | rfl | rfl
  · show (r i).natAbs ≤ 1 * W
    omega
  · exact m1_bnd (hA 0 0 (by omega) (by omega)) (hr 0 (by omega)) (hAi 0 (by omega)) hri
  · exact m2_bnd (hA 0 0 (by omega) (by omega)) (hA 0 1 (by omega) (by omega)) (hA 1 0 (by omega) (by omega)) (hA 1 1 (by omega) (by omega)) (hr 0 (by omega)) (hr 1 (by omega)) (hAi 0 (by omega)) (hAi 1 (by omega)) hri
  · exact m3_bnd (hA 0 0 (by omega) (by omega)) (hA 0 1 (by omega) (by omega)) (hA 0 2 (by omega) (by omega)) (hA 1 0 (by omega) (by omega)) (hA 1 1 (by omega) (by omega)) (hA 1 2 (by omega) (by omega)) (hA 2 0 (by omega) (by omega)) (hA 2 1 (by omega) (by omega)) (hA 2 2 (by omega) (by omega)) (hr 0 (by omega)) (hr 1 (by omega)) (hr 2 (by omega)) (hAi 0 (by omega)) (hAi 1 (by omega)) (hAi 2 (by omega)) hri
/-- a column is as its minors, but for a part that all have in common -/
def Prp (n : Nat) (row M : Nat → Int) : Prop := ∃ a b : Int, a ≠ 0 ∧ b ≠ 0 ∧ ∀ i, i ≤ n → a * row i = b * M i
def Prim (n : Nat) (row : Nat → Int) : Prop := ∀ d : Nat, (∀ i, i ≤ n → (d : Int) ∣ row i) → d = 1
theorem Prp_congr {n : Nat} {row M row' M' : Nat → Int} (h : Prp n row M) (h1 : ∀ i, i ≤ n → row' i = row i) (h2 : ∀ i, i ≤ n → M' i = M i) : Prp n row' M' := by
  obtain ⟨a, b, ha, hb, hab⟩ := h
  exact ⟨a, b, ha, hb, fun i hi => by rw [h1 i hi, h2 i hi]; exact hab i hi⟩
theorem Prp_bnd {n : Nat} {row M : Nat → Int} (h : Prp n row M) (hp : Prim n row) {i : Nat} (hi : i ≤ n) : (row i).natAbs ≤ (M i).natAbs := by
  obtain ⟨a, b, ha, hb, hab⟩ := h
  have hab' : ∀ i, i ≤ n → a.natAbs * (row i).natAbs = b.natAbs * (M i).natAbs := fun i hi => by
    rw [← Int.natAbs_mul, ← Int.natAbs_mul, hab i hi]
  have hA : 0 < a.natAbs := by omega
  have hB : 0 < b.natAbs := by omega
  generalize a.natAbs = A at hab' hA
  generalize b.natAbs = B at hab' hB
  obtain ⟨g, hg⟩ : ∃ g, g = Nat.gcd A B := ⟨_, rfl⟩
  have hg0 : 0 < g := by rw [hg]; exact Nat.gcd_pos_of_pos_left _ hA
  obtain ⟨A', hA'⟩ : g ∣ A := hg ▸ Nat.gcd_dvd_left _ _
  obtain ⟨B', hB'⟩ : g ∣ B := hg ▸ Nat.gcd_dvd_right _ _
  have hcop : Nat.gcd A' B' = 1 := by
    have h1 : g * Nat.gcd A' B' = g * 1 := by rw [← Nat.gcd_mul_left, ← hA', ← hB', ← hg, Nat.mul_one]
    exact Nat.eq_of_mul_eq_mul_left hg0 h1
  have hab2 : ∀ i, i ≤ n → A' * (row i).natAbs = B' * (M i).natAbs := fun i hi => by
    have h1 := hab' i hi
    rw [hA', hB', Nat.mul_assoc, Nat.mul_assoc] at h1
    exact Nat.eq_of_mul_eq_mul_left hg0 h1
  have hB1 : B' = 1 := hp B' (fun i hi => by
    rw [Int.ofNat_dvd_left]
    have h1 : B' ∣ A' * (row i).natAbs := ⟨_, hab2 i hi⟩
    exact Nat.Coprime.dvd_of_dvd_mul_left (Nat.Coprime.symm hcop) h1)
  have hA1 : 1 ≤ A' := by
    rcases Nat.eq_zero_or_pos A' with e | e
    · rw [e, Nat.mul_zero] at hA'
      omega
    · exact e
  have h1 := hab2 i hi
  rw [hB1, Nat.one_mul] at h1
  rw [← h1]
  exact Nat.le_mul_of_pos_left _ hA1
/-- a turn keeps that: x is turned by y at k into x' -/
theorem Prp_turn {n k : Nat} {x y x' Mx My M' : Nat → Int} {P : Int} {g : Nat} (hk : k ≤ n) (hx : Prp n x Mx) (hy : Prp n y My) (hP : P ≠ 0) (hyk : y k ≠ 0) (hid : ∀ i, i ≤ n → Mx i * My k - My i * Mx k = P * M' i) (hx' : ∀ i, i ≤ n → (g : Int) * x' i = x i * y k - y i * x k) (hg0 : g = 0 → ∀ i, i ≤ n → x' i = 0) : Prp n x' M' := by
  obtain ⟨a, b, ha, hb, hab⟩ := hx
  obtain ⟨c, d, hc, hd, hcd⟩ := hy
  have key : ∀ i, i ≤ n → a * c * ((g : Int) * x' i) = b * d * P * M' i := fun i hi => by
    have e1 := hab i hi
    have e2 := hab k hk
    have e3 := hcd i hi
    have e4 := hcd k hk
    have e5 := hid i hi
    rw [hx' i hi]
    have h1 : a * c * (x i * y k - y i * x k) = (a * x i) * (c * y k) - (c * y i) * (a * x k) := by grind
    rw [h1, e1, e2, e3, e4]
    have h2 : b * Mx i * (d * My k) - d * My i * (b * Mx k) = b * d * (Mx i * My k - My i * Mx k) := by grind
    rw [h2, e5]
    exact (Int.mul_assoc _ _ _).symm
  by_cases hg : g = 0
  · refine ⟨1, 1, by decide, by decide, fun i hi => ?_⟩
    have h1 := key i hi
    rw [hg, hg0 hg i hi, Int.mul_zero, Int.mul_zero] at h1
    have h2 : b * d * P ≠ 0 := Int.mul_ne_zero (Int.mul_ne_zero hb hd) hP
    have h3 : M' i = 0 := by
      rcases Int.mul_eq_zero.mp h1.symm with e | e
      · exact absurd e h2
      · exact e
    rw [hg0 hg i hi, h3]
  · refine ⟨a * c * (g : Int), b * d * P, Int.mul_ne_zero (Int.mul_ne_zero ha hc) (by omega), Int.mul_ne_zero (Int.mul_ne_zero hb hd) hP, fun i hi => ?_⟩
    rw [Int.mul_assoc (a * c)]
    exact key i hi
/-- so does a column that needs no turn -/
theorem Prp_keep {n k : Nat} {x y Mx My M' : Nat → Int} {P : Int} (hk : k ≤ n) (hx : Prp n x Mx) (hy : Prp n y My) (hP : P ≠ 0) (hyk : y k ≠ 0) (hxk : x k = 0) (hid : ∀ i, i ≤ n → Mx i * My k - My i * Mx k = P * M' i) : Prp n x M' := by
  obtain ⟨a, b, ha, hb, hab⟩ := hx
  obtain ⟨c, d, hc, hd, hcd⟩ := hy
  have hMx : Mx k = 0 := by
    have h1 := hab k hk
    rw [hxk, Int.mul_zero] at h1
    rcases Int.mul_eq_zero.mp h1.symm with e | e
    · exact absurd e hb
    · exact e
  have hMy : My k ≠ 0 := fun e => by
    have h1 := hcd k hk
    rw [e, Int.mul_zero] at h1
    rcases Int.mul_eq_zero.mp h1 with q | q
    · exact hc q
    · exact hyk q
  refine ⟨a * My k, b * P, Int.mul_ne_zero ha hMy, Int.mul_ne_zero hb hP, fun i hi => ?_⟩
  have h1 := hid i hi
  rw [hMx, Int.mul_zero, Int.sub_zero] at h1
  rw [Int.mul_assoc b, ← h1, ← Int.mul_assoc b, ← hab i hi]
  grind
theorem Prp_nz {n k : Nat} {y My : Nat → Int} (hk : k ≤ n) (hy : Prp n y My) (hyk : y k ≠ 0) : My k ≠ 0 := fun e => by
  obtain ⟨c, d, hc, hd, hcd⟩ := hy
  have h1 := hcd k hk
  rw [e, Int.mul_zero] at h1
  rcases Int.mul_eq_zero.mp h1 with q | q
  · exact hc q
  · exact hyk q
