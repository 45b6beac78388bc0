/-! ===== clearing: bounds of the answers; cleared columns keep them ===== -/
theorem zz_bnd {n : Nat} (hn1 : 1 ≤ n) (hn : n ≤ 4) {p : Nat → Nat → Int} (hp : ∀ s, s < n → ∀ i, i ≤ n → (p s i).natAbs ≤ wW n i) (k : Nat) : (zz n p k).natAbs ≤ 29997000000 := by
  have h50 : ∀ s, s < n → ∀ i, i < n → (p s i).natAbs ≤ 50 := fun s hs i hi => by have := hp s hs i (by omega); rw [wW_k hi] at this; exact this
  have hT : ∀ s, s < n → (p s n).natAbs ≤ 9999 := fun s hs => by have := hp s hs n (Nat.le_refl _); have := wW_le n n; omega
  rcases (show n = 1 ∨ n = 2 ∨ n = 3 ∨ n = 4 by omega) with rfl | rfl | rfl | rfl
  · have := hT 0 (by omega)
    show (p 0 1).natAbs ≤ _
    omega
  · have b : ∀ c, c < 2 → (m1 (p 0) c (p 1) 2).natAbs ≤ 100 * 9999 := fun c hc => m1_bnd (h50 0 (by omega) c hc) (h50 1 (by omega) c hc) (hT 0 (by omega)) (hT 1 (by omega))
    have b0 := b 0 (by omega)
    have b1 := b 1 (by omega)
    show (if k = 0 then -(m1 (p 0) 1 (p 1) 2) else m1 (p 0) 0 (p 1) 2).natAbs ≤ _
    split <;> omega
  · have b : ∀ c d, c < 3 → d < 3 → (m2 (p 0) (p 1) c d (p 2) 3).natAbs ≤ 15000 * 9999 := fun c d hc hd => m2_bnd (h50 0 (by omega) c hc) (h50 0 (by omega) d hd) (h50 1 (by omega) c hc) (h50 1 (by omega) d hd) (h50 2 (by omega) c hc) (h50 2 (by omega) d hd) (hT 0 (by omega)) (hT 1 (by omega)) (hT 2 (by omega))
    have b0 := b 1 2 (by omega) (by omega)
    have b1 := b 0 2 (by omega) (by omega)
    have b2 := b 0 1 (by omega) (by omega)
    show (if k = 0 then m2 (p 0) (p 1) 1 2 (p 2) 3 else if k = 1 then -(m2 (p 0) (p 1) 0 2 (p 2) 3) else m2 (p 0) (p 1) 0 1 (p 2) 3).natAbs ≤ _
    split
    · omega
    · split <;> omega
  · have b : ∀ c d e, c < 4 → d < 4 → e < 4 → (m3 (p 0) (p 1) (p 2) c d e (p 3) 4).natAbs ≤ 3000000 * 9999 := fun c d e hc hd he => m3_bnd (h50 0 (by omega) c hc) (h50 0 (by omega) d hd) (h50 0 (by omega) e he) (h50 1 (by omega) c hc) (h50 1 (by omega) d hd) (h50 1 (by omega) e he) (h50 2 (by omega) c hc) (h50 2 (by omega) d hd) (h50 2 (by omega) e he) (h50 3 (by omega) c hc) (h50 3 (by omega) d hd) (h50 3 (by omega) e he) (hT 0 (by omega)) (hT 1 (by omega)) (hT 2 (by omega)) (hT 3 (by omega))
    have b0 := b 1 2 3 (by omega) (by omega) (by omega)
    have b1 := b 0 2 3 (by omega) (by omega) (by omega)
    have b2 := b 0 1 3 (by omega) (by omega) (by omega)
    have b3 := b 0 1 2 (by omega) (by omega) (by omega)
    show (if k = 0 then -(m3 (p 0) (p 1) (p 2) 1 2 3 (p 3) 4) else if k = 1 then m3 (p 0) (p 1) (p 2) 0 2 3 (p 3) 4 else if k = 2 then -(m3 (p 0) (p 1) (p 2) 0 1 3 (p 3) 4) else m3 (p 0) (p 1) (p 2) 0 1 2 (p 3) 4).natAbs ≤ _
    split
    · omega
    · split
      · omega
      · split <;> omega
theorem dd_bnd {n : Nat} (hn1 : 1 ≤ n) (hn : n ≤ 4) {p : Nat → Nat → Int} (hp : ∀ s, s < n → ∀ i, i ≤ n → (p s i).natAbs ≤ wW n i) : (dd n p).natAbs ≤ 150000000 := by
  have h50 : ∀ s, s < n → ∀ i, i < n → (p s i).natAbs ≤ 50 := fun s hs i hi => by have := hp s hs i (by omega); rw [wW_k hi] at this; exact this
  rcases (show n = 1 ∨ n = 2 ∨ n = 3 ∨ n = 4 by omega) with rfl | rfl | rfl | rfl
  · have := h50 0 (by omega) 0 (by omega)
    show (p 0 0).natAbs ≤ _
    omega
  · have b := m1_bnd (h50 0 (by omega) 0 (by omega)) (h50 1 (by omega) 0 (by omega)) (h50 0 (by omega) 1 (by omega)) (h50 1 (by omega) 1 (by omega))
    show (m1 (p 0) 0 (p 1) 1).natAbs ≤ _
    omega
  · have b := m2_bnd (h50 0 (by omega) 0 (by omega)) (h50 0 (by omega) 1 (by omega)) (h50 1 (by omega) 0 (by omega)) (h50 1 (by omega) 1 (by omega)) (h50 2 (by omega) 0 (by omega)) (h50 2 (by omega) 1 (by omega)) (h50 0 (by omega) 2 (by omega)) (h50 1 (by omega) 2 (by omega)) (h50 2 (by omega) 2 (by omega))
    show (m2 (p 0) (p 1) 0 1 (p 2) 2).natAbs ≤ _
    omega
  · have b := m3_bnd (h50 0 (by omega) 0 (by omega)) (h50 0 (by omega) 1 (by omega)) (h50 0 (by omega) 2 (by omega)) (h50 1 (by omega) 0 (by omega)) (h50 1 (by omega) 1 (by omega)) (h50 1 (by omega) 2 (by omega)) (h50 2 (by omega) 0 (by omega)) (h50 2 (by omega) 1 (by omega)) (h50 2 (by omega) 2 (by omega)) (h50 3 (by omega) 0 (by omega)) (h50 3 (by omega) 1 (by omega)) (h50 3 (by omega) 2 (by omega)) (h50 0 (by omega) 3 (by omega)) (h50 1 (by omega) 3 (by omega)) (h50 2 (by omega) 3 (by omega)) (h50 3 (by omega) 3 (by omega))
    show (m3 (p 0) (p 1) (p 2) 0 1 2 (p 3) 3).natAbs ≤ _
    omega
theorem sa_congr {f f' : Nat → Int} : ∀ n, (∀ i, i < n → f i = f' i) → sa f n = sa f' n := by
  intro n
  induction n with
  | zero => intro _; rfl
  | succ n ih =>
    intro h
    simp only [sa]
    rw [ih (fun i hi => h i (by omega)), h n (by omega)]
theorem sa_lin (x y u v z : Nat → Int) (a b c d : Int) : ∀ n, sa (fun i => (a * x i + b * y i + c * u i + d * v i) * z i) n = a * sa (fun i => x i * z i) n + b * sa (fun i => y i * z i) n + c * sa (fun i => u i * z i) n + d * sa (fun i => v i * z i) n := by
  intro n
  induction n with
  | zero => simp only [sa]; omega
  | succ n ih =>
    simp only [sa]
    rw [ih]
    grind
/-- what all columns do with the answers, their minors do -/
theorem ort_lin {n : Nat} {z : Nat → Int} {D : Int} {x y u v M : Nat → Int} (a b c d : Int) (hx : sa (fun i => x i * z i) n = x n * D) (hy : sa (fun i => y i * z i) n = y n * D) (hu : sa (fun i => u i * z i) n = u n * D) (hv : sa (fun i => v i * z i) n = v n * D) (hM : ∀ i, M i = a * x i + b * y i + c * u i + d * v i) : sa (fun i => M i * z i) n = M n * D := by
  have e : sa (fun i => M i * z i) n = sa (fun i => (a * x i + b * y i + c * u i + d * v i) * z i) n := sa_congr n (fun i _ => by rw [hM i])
  rw [e, sa_lin, hx, hy, hu, hv, hM n]
  grind
theorem ort_mt {n : Nat} {z : Nat → Int} {D : Int} {A : Nat → Nat → Int} {F C : Nat → Nat} {t : Nat} (ht : t ≤ 3) (h : ∀ s, s ≤ t → sa (fun i => A (F s) i * z i) n = A (F s) n * D) : sa (fun i => mt A F C t (A (F t)) i * z i) n = mt A F C t (A (F t)) n * D := by
  rcases (show t = 0 ∨ t = 1 ∨ t = 2 ∨ t = 3 by omega) with rfl | rfl | rfl | rfl
  · exact h 0 (by omega)
  · refine ort_lin (A (F 0) (C 0)) (-(A (F 1) (C 0))) 0 0 (h 1 (by omega)) (h 0 (by omega)) (h 0 (by omega)) (h 0 (by omega)) (fun i => ?_)
    show m1 _ _ _ _ = _
    unfold m1
    grind
  · refine ort_lin (A (F 0) (C 0) * A (F 1) (C 1) - A (F 0) (C 1) * A (F 1) (C 0)) (-(A (F 0) (C 0) * A (F 2) (C 1)) + A (F 0) (C 1) * A (F 2) (C 0)) (A (F 1) (C 0) * A (F 2) (C 1) - A (F 1) (C 1) * A (F 2) (C 0)) 0 (h 2 (by omega)) (h 1 (by omega)) (h 0 (by omega)) (h 0 (by omega)) (fun i => ?_)
    show m2 _ _ _ _ _ _ = _
    unfold m2
    grind
  · refine ort_lin (m2 (A (F 0)) (A (F 1)) (C 0) (C 1) (A (F 2)) (C 2)) (-(A (F 3) (C 2)) * (A (F 0) (C 0) * A (F 1) (C 1) - A (F 0) (C 1) * A (F 1) (C 0)) + A (F 3) (C 1) * (A (F 0) (C 0) * A (F 1) (C 2) - A (F 0) (C 2) * A (F 1) (C 0)) - A (F 3) (C 0) * (A (F 0) (C 1) * A (F 1) (C 2) - A (F 0) (C 2) * A (F 1) (C 1))) (-(A (F 3) (C 2)) * (A (F 0) (C 1) * A (F 2) (C 0) - A (F 0) (C 0) * A (F 2) (C 1)) + A (F 3) (C 1) * (A (F 0) (C 2) * A (F 2) (C 0) - A (F 0) (C 0) * A (F 2) (C 2)) - A (F 3) (C 0) * (A (F 0) (C 2) * A (F 2) (C 1) - A (F 0) (C 1) * A (F 2) (C 2))) (-(A (F 3) (C 2)) * (A (F 1) (C 0) * A (F 2) (C 1) - A (F 1) (C 1) * A (F 2) (C 0)) + A (F 3) (C 1) * (A (F 1) (C 0) * A (F 2) (C 2) - A (F 1) (C 2) * A (F 2) (C 0)) - A (F 3) (C 0) * (A (F 1) (C 1) * A (F 2) (C 2) - A (F 1) (C 2) * A (F 2) (C 1))) (h 3 (by omega)) (h 2 (by omega)) (h 1 (by omega)) (h 0 (by omega)) (fun i => ?_)
    show m3 _ _ _ _ _ _ _ _ = _
    unfold m3 m2
    generalize A (F 0) (C 0) = a0
    generalize A (F 0) (C 1) = a1
    generalize A (F 0) (C 2) = a2
    generalize A (F 0) i = a3
    generalize A (F 1) (C 0) = b0
    generalize A (F 1) (C 1) = b1
    generalize A (F 1) (C 2) = b2
    generalize A (F 1) i = b3
    generalize A (F 2) (C 0) = c0
    generalize A (F 2) (C 1) = c1
    generalize A (F 2) (C 2) = c2
    generalize A (F 2) i = c3
    generalize A (F 3) (C 0) = d0
    generalize A (F 3) (C 1) = d1
    generalize A (F 3) (C 2) = d2
    generalize A (F 3) i = d3
    grind
theorem ort_prp {n : Nat} {z : Nat → Int} {D : Int} {row M : Nat → Int} (h : Prp n row M) (hM : sa (fun i => M i * z i) n = M n * D) : sa (fun i => row i * z i) n = row n * D := by
  obtain ⟨a, b, ha, hb, hab⟩ := h
  have key : a * sa (fun i => row i * z i) n = b * sa (fun i => M i * z i) n := by
    have gen : ∀ q, q ≤ n → a * sa (fun i => row i * z i) q = b * sa (fun i => M i * z i) q := by
      intro q
      induction q with
      | zero => intro _; simp only [sa]; omega
      | succ q ih =>
        intro hq
        simp only [sa]
        have h1 := hab q (by omega)
        have h2 := ih (by omega)
        rw [Int.mul_add, Int.mul_add, h2, ← Int.mul_assoc a, h1, Int.mul_assoc b]
    exact gen n (Nat.le_refl _)
  have h1 := hab n (Nat.le_refl _)
  have h2 : a * sa (fun i => row i * z i) n = a * (row n * D) := by
    rw [key, hM, ← Int.mul_assoc b, ← h1, Int.mul_assoc]
  exact Int.eq_of_mul_eq_mul_left ha h2
/-- minors with a column that is settled already -/
theorem mt_rep {A : Nat → Nat → Int} {F C : Nat → Nat} {t s : Nat} (ht : t ≤ 3) (hs : s < t) (r : Nat → Int) : mt A F C t r (C s) = 0 := by
  rcases (show t = 1 ∨ t = 2 ∨ t = 3 by omega) with rfl | rfl | rfl
  · have : s = 0 := by omega
    subst this
    show m1 _ _ _ _ = _
    unfold m1
    grind
  · rcases (show s = 0 ∨ s = 1 by omega) with rfl | rfl
    · show m2 _ _ _ _ _ _ = _
      unfold m2
      grind
    · show m2 _ _ _ _ _ _ = _
      unfold m2
      grind
  · rcases (show s = 0 ∨ s = 1 ∨ s = 2 by omega) with rfl | rfl | rfl
    · show m3 _ _ _ _ _ _ _ _ = _
      unfold m3 m2
      grind
    · show m3 _ _ _ _ _ _ _ _ = _
      unfold m3 m2
      grind
    · show m3 _ _ _ _ _ _ _ _ = _
      unfold m3 m2
      grind
theorem Prp_zero {n k : Nat} {y My : Nat → Int} (hk : k ≤ n) (hy : Prp n y My) (hM : My k = 0) : y k = 0 := by
  obtain ⟨c, d, hc, hd, hcd⟩ := hy
  have h1 := hcd k hk
  rw [hM, Int.mul_zero] at h1
  rcases Int.mul_eq_zero.mp h1 with q | q
  · exact absurd q hc
  · exact q
/-- the sum over those behind k -/
def sm (f : Nat → Int) (k : Nat) : Nat → Int
  | 0 => 0
  | i + 1 => sm f k i + (if k < i then f i else 0)
theorem sa_sm {f : Nat → Int} {k : Nat} (h : ∀ i, i < k → f i = 0) : ∀ n, sa f n = (if k < n then f k else 0) + sm f k n := by
  intro n
  induction n with
  | zero =>
    show (0 : Int) = (if k < 0 then f k else 0) + 0
    rw [if_neg (by omega)]
    rfl
  | succ n ih =>
    simp only [sa, sm]
    rw [ih]
    rcases Nat.lt_trichotomy k n with c | c | c
    · rw [if_pos c, if_pos c, if_pos (by omega)]
      omega
    · subst c
      rw [if_neg (show ¬ k < k by omega), if_pos (show k < k + 1 by omega)]
      have : sm f k k = 0 := by
        have gen : ∀ q, q ≤ k → sm f k q = 0 := by
          intro q
          induction q with
          | zero => intro _; rfl
          | succ q ih2 =>
            intro hq
            simp only [sm]
            rw [ih2 (by omega), if_neg (by omega)]
            rfl
        exact gen k (Nat.le_refl _)
      rw [this]
      omega
    · rw [if_neg (by omega), if_neg (by omega), if_neg (by omega), h n c]
      omega
theorem sm_mul {row z u : Nat → Int} {L D : Int} {k : Nat} : ∀ n, (∀ i, k < i → i < n → z i * L = u i * D) → sm (fun i => row i * z i) k n * L = sm (fun i => row i * u i) k n * D := by
  intro n
  induction n with
  | zero => intro _; simp only [sm]; omega
  | succ n ih =>
    intro h
    have ih' := ih (fun i h1 h2 => h i h1 (by omega))
    simp only [sm]
    rw [Int.add_mul, Int.add_mul, ih']
    by_cases c : k < n
    · have h1 := h n c (by omega)
      rw [if_pos c, if_pos c, Int.mul_assoc, h1, ← Int.mul_assoc]
    · rw [if_neg c, if_neg c, Int.zero_mul, Int.zero_mul]
