/-! ===== mend ===== -/
theorem digit_swap {A d p : Nat} (hA : A < 1000000000000) (hd : d < 10) (hp : p < 12) : A / 10 ^ p % 10 * 10 ^ p ≤ A ∧ A + d * 10 ^ p < 1000000000000 + A / 10 ^ p % 10 * 10 ^ p := by
  have : p = 0 ∨ p = 1 ∨ p = 2 ∨ p = 3 ∨ p = 4 ∨ p = 5 ∨ p = 6 ∨ p = 7 ∨ p = 8 ∨ p = 9 ∨ p = 10 ∨ p = 11 := by omega
  rcases this with rfl | rfl | rfl | rfl | rfl | rfl | rfl | rfl | rfl | rfl | rfl | rfl <;> simp only [Nat.reducePow] <;> omega
def nv (x : Int64) (p d : Nat) : Int64 := if x < (0 : Int64) then x - (nI d - nI (dgt x p)).toInt64 * tensF p else x + (nI d - nI (dgt x p)).toInt64 * tensF p
theorem withDigit_n {x : Int64} {p d : Nat} (h : Fit x) (hp : p < 12) : fX5_withDigit x (nI p) (nI d) = some (nv x p d) := by
  unfold fX5_withDigit nv
  rw [digit8 h hp, tenTo8 p hp]
  simp only [Option.bind_some]
  by_cases c : x < (0 : Int64)
  · rw [if_pos c, if_pos c]
  · rw [if_neg c, if_neg c]
theorem nv_ok {x : Int64} {p d : Nat} (h : Fit x) (hp : p < 12) (hd : d < 10) : Fit (nv x p d) ∧ ∀ z : Int64, z.toInt = (x.toInt.natAbs : Int) → (x < (0 : Int64) → -(z + (nI d - nI (dgt x p)).toInt64 * tensF p) = nv x p d) ∧ (¬ x < (0 : Int64) → z + (nI d - nI (dgt x p)).toInt64 * tensF p = nv x p d) := by
  have hA := fit_abs.mp h
  obtain ⟨s1, s2⟩ := digit_swap hA hd hp
  have hg := dgt_lt x p
  have hT : (tensF p).toInt = ((10 ^ p : Nat) : Int) := tens_toInt p hp
  have hTb : 10 ^ p ≤ 10 ^ 11 := Nat.pow_le_pow_right (by decide) (by omega)
  have h11 : (10 : Nat) ^ 11 = 100000000000 := rfl
  have e0 : (nI d - nI (dgt x p)).toInt = (d : Int) - (dgt x p : Int) := by
    rw [t32_sub] <;> rw [nI_toInt (by omega), nI_toInt (by omega)] <;> omega
  have key : ∃ w : Int, (nI d - nI (dgt x p)).toInt64.toInt * (tensF p).toInt = w ∧ w = ((d * 10 ^ p : Nat) : Int) - ((dgt x p * 10 ^ p : Nat) : Int) := by
    refine ⟨_, rfl, ?_⟩
    rw [t32_to64, e0, hT, Int.sub_mul, Int.natCast_mul, Int.natCast_mul]
  obtain ⟨w, k1, k2⟩ := key
  have b1 : d * 10 ^ p ≤ 9 * 100000000000 := Nat.mul_le_mul (by omega) (by omega)
  have b2 : dgt x p * 10 ^ p ≤ 9 * 100000000000 := Nat.mul_le_mul (by omega) (by omega)
  have s1' : dgt x p * 10 ^ p ≤ x.toInt.natAbs := s1
  have s2' : x.toInt.natAbs + d * 10 ^ p < 1000000000000 + dgt x p * 10 ^ p := s2
  have hm : ((nI d - nI (dgt x p)).toInt64 * tensF p).toInt = w := by
    rw [t64_mul] <;> rw [k1] <;> omega
  have z0 : (0 : Int64).toInt = 0 := rfl
  unfold nv
  by_cases c : x < (0 : Int64)
  · rw [if_pos c]
    have c' := c
    rw [Int64.lt_iff_toInt_lt, z0] at c'
    have ev : (x - (nI d - nI (dgt x p)).toInt64 * tensF p).toInt = x.toInt - w := by
      rw [t64_sub] <;> rw [hm] <;> omega
    refine ⟨fit_abs.mpr (by rw [ev]; omega), fun z hz => ⟨fun _ => ?_, fun q => absurd c q⟩⟩
    apply Int64.toInt_inj.mp
    have ez : (z + (nI d - nI (dgt x p)).toInt64 * tensF p).toInt = (x.toInt.natAbs : Int) + w := by
      rw [t64_add] <;> rw [hm, hz] <;> omega
    rw [ev, t64_neg (by rw [ez]; omega), ez]
    omega
  · rw [if_neg c]
    have c' := c
    rw [Int64.lt_iff_toInt_lt, z0] at c'
    have ev : (x + (nI d - nI (dgt x p)).toInt64 * tensF p).toInt = x.toInt + w := by
      rw [t64_add] <;> rw [hm] <;> omega
    refine ⟨fit_abs.mpr (by rw [ev]; omega), fun z hz => ⟨fun q => absurd q c, fun _ => ?_⟩⟩
    apply Int64.toInt_inj.mp
    have ez : (z + (nI d - nI (dgt x p)).toInt64 * tensF p).toInt = (x.toInt.natAbs : Int) + w := by
      rw [t64_add] <;> rw [hm, hz] <;> omega
    rw [ev, ez]
    omega
/-- the step j of the cells is right -/
def RT (C : Nat → Int64) (Cn : Nat → Int32) (j : Nat) : Prop := ¬ Dk C j ∧ ∀ r, r < 8 → fX3_walked (nI j) (nI r) C Cn = some (C (8 * (j + 1) + r))
theorem isRight_R {b : Nat} {N : Nat → Int32} {Cc : Nat → Int64} {Cn : Nat → Int32} {My : Nat → Int64} {Mg Mn : Nat → Int32} (h : CP b N Cc Cn My Mg Mn) {i : Nat} (hi : i + 1 < b) : (fX1_isRight (nI i) (nI b) Cc Cn = some 1 ∧ RT Cc Cn i) ∨ (fX1_isRight (nI i) (nI b) Cc Cn = some 0 ∧ ¬ RT Cc Cn i) := by
  have hb := h.2.1
  have hd := isDark_n (f := Cc) (i := i) (by omega)
  have hb1 : i < b - 1 := by omega
  have hb2 : b - 1 < 2 ^ 31 := by omega
  unfold fX1_isRight
  rw [if_neg (nI_not_neg (by omega)), steps_n (by omega)]
  simp only [Option.bind_some]
  rw [if_pos (nI_lt hb1 hb2)]
  by_cases hk : Dk Cc i
  · right
    rw [hd.1 hk]
    exact ⟨rfl, fun q => q.1 hk⟩
  · obtain ⟨z, t, hand', w1, -, -⟩ := walk_both h hi (fun r hr q => hk (Or.inl ⟨r, hr, q⟩)) (fun _ => 0)
    have hl := right8_loop (C := Cc) (N := Cn) z (by omega) w1
    rw [hd.2 hk]
    simp only [Option.bind_some, if_true]
    by_cases hall : ∀ r, r < 8 → z r = Cc (8 * (i + 1) + r)
    · left
      rw [hl.1 hall]
      exact ⟨rfl, hk, fun r hr => by rw [w1 r hr, hall r hr]⟩
    · right
      rw [hl.2 hall]
      refine ⟨rfl, fun q => hall fun r hr => ?_⟩
      have := q.2 r hr
      rw [w1 r hr] at this
      exact Option.some.inj this
theorem rightOf_R {b : Nat} {N : Nat → Int32} {Cc : Nat → Int64} {Cn : Nat → Int32} {My : Nat → Int64} {Mg Mn : Nat → Int32} (h : CP b N Cc Cn My Mg Mn) {i : Nat} (hi : i + 1 < b) (hand : Nat → Int64) : ∃ (w : Int32) (hand' : Nat → Int64), fX9_rightOf (nI i) Mn My Mg hand = some (w, hand') ∧ ((w = 1 ∧ RT Cc Cn i) ∨ (¬ w = 1 ∧ ¬ RT Cc Cn i)) := by
  obtain ⟨w, hand', h1, h2⟩ := rightOf_both h hi hand
  refine ⟨w, hand', h1, ?_⟩
  rcases isRight_R h hi with ⟨a1, a2⟩ | ⟨a1, a2⟩
  · left
    refine ⟨?_, a2⟩
    rcases h2 with ⟨-, -, q⟩ | ⟨q, -, -⟩ | ⟨-, -, q⟩
    · rw [a1] at q; exact absurd q (by decide)
    · exact q
    · rw [a1] at q; exact absurd q (by decide)
  · right
    refine ⟨fun e => ?_, a2⟩
    rcases h2 with ⟨q, -, -⟩ | ⟨-, -, q⟩ | ⟨q, -, -⟩
    · rw [e] at q; exact absurd q (by decide)
    · rw [a1] at q; exact absurd q (by decide)
    · rw [e] at q; exact absurd q (by decide)
theorem Dk_congr {C C' : Nat → Int64} {j : Nat} (h1 : ∀ r, r < 8 → C' (8 * j + r) = C (8 * j + r)) (h2 : ∀ r, r < 8 → C' (8 * (j + 1) + r) = C (8 * (j + 1) + r)) : Dk C' j ↔ Dk C j := by
  constructor
  · rintro (⟨r, hr, q⟩ | ⟨r, hr, q⟩)
    · exact Or.inl ⟨r, hr, by rw [← h1 r hr]; exact q⟩
    · exact Or.inr ⟨r, hr, by rw [← h2 r hr]; exact q⟩
  · rintro (⟨r, hr, q⟩ | ⟨r, hr, q⟩)
    · exact Or.inl ⟨r, hr, by rw [h1 r hr]; exact q⟩
    · exact Or.inr ⟨r, hr, by rw [h2 r hr]; exact q⟩
theorem RT_congr {b : Nat} {N : Nat → Int32} {Cc Cc' : Nat → Int64} {Cn : Nat → Int32} {My : Nat → Int64} {Mg Mn : Nat → Int32} (h : CP b N Cc Cn My Mg Mn) {j : Nat} (hj : j + 1 < b) (h1 : ∀ r, r < 8 → Cc' (8 * j + r) = Cc (8 * j + r)) (h2 : ∀ r, r < 8 → Cc' (8 * (j + 1) + r) = Cc (8 * (j + 1) + r)) : RT Cc' Cn j ↔ RT Cc Cn j := by
  have hd := Dk_congr (j := j) h1 h2
  by_cases c : Dk Cc j
  · exact ⟨fun q => absurd (hd.mpr c) q.1, fun q => absurd c q.1⟩
  · have hw : ∀ r, r < 8 → fX3_walked (nI j) (nI r) Cc' Cn = fX3_walked (nI j) (nI r) Cc Cn := fun r hr => CP_walk h hj (fun r hr q => c (Or.inl ⟨r, hr, q⟩)) h1 hr
    constructor
    · exact fun q => ⟨c, fun r hr => by rw [← hw r hr, q.2 r hr, h2 r hr]⟩
    · exact fun q => ⟨fun e => c (hd.mp e), fun r hr => by rw [hw r hr, q.2 r hr, h2 r hr]⟩
theorem isRight_m1 {b : Int32} {C : Nat → Int64} {N : Nat → Int32} : fX1_isRight (nI 0 - (1 : Int32)) b C N = some 0 := rfl
theorem isRight_end {b i : Nat} {C : Nat → Int64} {N : Nat → Int32} (hb : b ≤ 49) (h : b ≤ i + 1) (hi : i < 49) : fX1_isRight (nI i) (nI b) C N = some 0 := by
  unfold fX1_isRight
  rw [if_neg (nI_not_neg (by omega)), steps_n (by omega)]
  simp only [Option.bind_some]
  rw [if_neg (nI_nlt (by omega) (by omega))]
theorem updL_back (f : Nat → Int64) (k : Nat) (v : Int64) : vp_updL (vp_updL f k v) k (f k) = f := by
  funext j
  by_cases e : j = k
  · subst e; rw [updL_at]
  · rw [updL_ne e, updL_ne e]
theorem CP_new {b : Nat} {N : Nat → Int32} {Cc : Nat → Int64} {Cn : Nat → Int32} {My : Nat → Int64} {Mg Mn : Nat → Int32} (h : CP b N Cc Cn My Mg Mn) {k : Nat} (hk : k < 8 * b) (hg : ¬ Cc k = LOSTv) {v : Int64} (hv : Fit v) : CP b N (vp_updL Cc k v) Cn (vp_updL My k v) Mg Mn := by
  refine CP_upd h k hv (updL_at _ _ _) (fun j hj => updL_ne hj) (updL_at _ _ _) (fun j hj => updL_ne hj) ?_ (fun _ _ => rfl)
  rcases CP_gap h hk with ⟨q, -, -⟩ | ⟨-, q⟩
  · exact q
  · exact absurd q hg
/-- the class's last turn of a mending: s0 the step beside, P what it is to be right there -/
theorem B39_n {b : Nat} {N : Nat → Int32} {Cc : Nat → Int64} {Cn : Nat → Int32} {My My' : Nat → Int64} {Mg Mg' Mn : Nat → Int32} (h : CP b N Cc Cn My Mg Mn) {i t row p d : Nat} (hi : i + 1 < b) (ht : t < 2) (hr : row < 8) (hp : p < 12) (hF : Fit (Cc (8 * (i + t) + row))) {v : Int64} (hv : v = nv (Cc (8 * (i + t) + row)) p d) (h' : CP b N (vp_updL Cc (8 * (i + t) + row) v) Cn My' Mg' Mn) (nd : ¬ Dk (vp_updL Cc (8 * (i + t) + row) v) i) {s0 : Int32} {P P' : Prop} (h1 : (fX1_isRight s0 (nI b) Cc Cn = some 1 ∧ P) ∨ (fX1_isRight s0 (nI b) Cc Cn = some 0 ∧ ¬ P)) (h2 : (fX1_isRight s0 (nI b) (vp_updL Cc (8 * (i + t) + row) v) Cn = some 1 ∧ P') ∨ (fX1_isRight s0 (nI b) (vp_updL Cc (8 * (i + t) + row) v) Cn = some 0 ∧ ¬ P')) : (fX1_mends_B39 (nI i) (nI (i + t)) (nI row) (nI p) (nI d) (Cc (8 * (i + t) + row)) s0 (nI b) Cc Cn = some (1, Cc) ∧ RT (vp_updL Cc (8 * (i + t) + row) v) Cn i ∧ (P → P')) ∨ (fX1_mends_B39 (nI i) (nI (i + t)) (nI row) (nI p) (nI d) (Cc (8 * (i + t) + row)) s0 (nI b) Cc Cn = some (0, Cc) ∧ ¬ (RT (vp_updL Cc (8 * (i + t) + row) v) Cn i ∧ (P → P'))) := by
  have hb := h.2.1
  have hk : 8 * (i + t) + row < 392 := by omega
  have hback := updL_back Cc (8 * (i + t) + row) v
  obtain ⟨z, -, -, w1, -, -⟩ := walk_both h' hi (fun r hr q => nd (Or.inl ⟨r, hr, q⟩)) (fun _ => 0)
  have hfits := fits_n (i := i) (by omega) hr (w1 row hr)
  unfold fX1_mends_B39
  rw [withDigit_n hF hp, ← hv]
  simp only [Option.bind_some]
  rw [put_n v hk]
  simp only [Option.bind_some]
  have zero : fX1_mends_B80 (nI (i + t)) (nI row) (Cc (8 * (i + t) + row)) s0 (nI b) (vp_updL Cc (8 * (i + t) + row) v) Cn = some (0, Cc) := by
    unfold fX1_mends_B80 fX1_mends_B81
    rw [if_pos rfl]
    unfold fX1_mends_B101 fX1_mends_B102
    rw [put_n _ hk, hback]
    rfl
  have notR : ∀ q : ¬ RT (vp_updL Cc (8 * (i + t) + row) v) Cn i, ¬ (RT (vp_updL Cc (8 * (i + t) + row) v) Cn i ∧ (P → P')) := fun q e => q e.1
  by_cases c : z row = vp_updL Cc (8 * (i + t) + row) v (8 * (i + 1) + row)
  · rw [hfits.1 c]
    rcases isRight_R h' hi with ⟨a1, a2⟩ | ⟨a1, a2⟩
    · rw [a1]
      simp only [Option.bind_some, i10]
      unfold fX1_mends_B81
      rw [i10]
      rcases h2 with ⟨b1, b2⟩ | ⟨b1, b2⟩
      · left
        rw [b1]
        simp only [Option.bind_some, i10]
        unfold fX1_mends_B102
        rw [put_n _ hk, hback]
        exact ⟨rfl, a2, fun _ => b2⟩
      · rw [b1]
        simp only [Option.bind_some, if_true]
        unfold fX1_mends_B101 fX1_mends_B102
        rw [put_n _ hk, hback]
        simp only [Option.bind_some, i10, if_true]
        rcases h1 with ⟨d1, d2⟩ | ⟨d1, d2⟩
        · right
          rw [d1]
          exact ⟨rfl, fun q => b2 (q.2 d2)⟩
        · left
          rw [d1]
          exact ⟨rfl, a2, fun q => absurd q d2⟩
    · right
      rw [a1]
      simp only [Option.bind_some, i10, if_true]
      exact ⟨zero, notR a2⟩
  · right
    rw [hfits.2 c]
    simp only [Option.bind_some, if_true]
    refine ⟨zero, notR fun q => c ?_⟩
    have := q.2 row hr
    rw [w1 row hr] at this
    exact Option.some.inj this
