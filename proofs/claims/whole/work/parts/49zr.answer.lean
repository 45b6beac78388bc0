/-! ===== clearing: answer ===== -/
theorem dd_pt {n : Nat} (hn1 : 1 ≤ n) (hn : n ≤ 4) (A : Nat → Nat → Int) (F : Nat → Nat) : pt A F (fun s => s) n = dd n (fun s => A (F s)) := by
  rcases (show n = 1 ∨ n = 2 ∨ n = 3 ∨ n = 4 by omega) with rfl | rfl | rfl | rfl <;> rfl
theorem bL_2 {t : Nat} (h : t ≤ 2) : bL t ≤ 15000 := by
  rcases (show t = 0 ∨ t = 1 ∨ t = 2 by omega) with rfl | rfl | rfl <;> decide
/-- the same fraction in lowest terms -/
theorem frac_eq {u z D : Int} {L : Nat} (hL : 0 < L) (hD : D ≠ 0) (h : u * D = z * (L : Int)) : ∃ (a : Int) (b : Nat), 0 < Nat.gcd u.natAbs L ∧ 0 < Nat.gcd z.natAbs D.natAbs ∧ u = (Nat.gcd u.natAbs L : Nat) * a ∧ L = Nat.gcd u.natAbs L * b ∧ (D < 0 → z = -(Nat.gcd z.natAbs D.natAbs : Nat) * a ∧ D = -(Nat.gcd z.natAbs D.natAbs : Nat) * (b : Int)) ∧ (¬ D < 0 → z = (Nat.gcd z.natAbs D.natAbs : Nat) * a ∧ D = (Nat.gcd z.natAbs D.natAbs : Nat) * (b : Int)) := by
  obtain ⟨G, hG⟩ : ∃ G, G = Nat.gcd u.natAbs L := ⟨_, rfl⟩
  obtain ⟨g, hg⟩ : ∃ g, g = Nat.gcd z.natAbs D.natAbs := ⟨_, rfl⟩
  have hG0 : 0 < G := by rw [hG]; exact Nat.gcd_pos_of_pos_right _ hL
  have hg0 : 0 < g := by rw [hg]; exact Nat.gcd_pos_of_pos_right _ (by omega)
  obtain ⟨a, ha⟩ : (G : Int) ∣ u := by rw [Int.ofNat_dvd_left, hG]; exact Nat.gcd_dvd_left _ _
  obtain ⟨b, hb⟩ : G ∣ L := hG ▸ Nat.gcd_dvd_right _ _
  obtain ⟨z1, hz1⟩ : (g : Int) ∣ z := by rw [Int.ofNat_dvd_left, hg]; exact Nat.gcd_dvd_left _ _
  obtain ⟨d1, hd1⟩ : (g : Int) ∣ D := by rw [Int.ofNat_dvd_left, hg]; exact Nat.gcd_dvd_right _ _
  have hb0 : 0 < b := by
    rcases Nat.eq_zero_or_pos b with e | e
    · rw [e, Nat.mul_zero] at hb; omega
    · exact e
  have cop1 : Nat.gcd a.natAbs b = 1 := by
    have q : G * Nat.gcd a.natAbs b = G * 1 := by
      rw [← Nat.gcd_mul_left, Nat.mul_one]
      have e : G * a.natAbs = u.natAbs := by rw [ha, Int.natAbs_mul, Int.natAbs_natCast]
      rw [e, ← hb, ← hG]
    exact Nat.eq_of_mul_eq_mul_left hG0 q
  have cop2 : Nat.gcd z1.natAbs d1.natAbs = 1 := by
    have q : g * Nat.gcd z1.natAbs d1.natAbs = g * 1 := by
      rw [← Nat.gcd_mul_left, Nat.mul_one]
      have e : g * z1.natAbs = z.natAbs := by rw [hz1, Int.natAbs_mul, Int.natAbs_natCast]
      have e2 : g * d1.natAbs = D.natAbs := by rw [hd1, Int.natAbs_mul, Int.natAbs_natCast]
      rw [e, e2, ← hg]
    exact Nat.eq_of_mul_eq_mul_left hg0 q
  have hab : a * d1 = z1 * (b : Int) := by
    have hGi : ((G : Int) * (g : Int)) ≠ 0 := Int.mul_ne_zero (by omega) (by omega)
    apply Int.eq_of_mul_eq_mul_left hGi
    have e : (G : Int) * (g : Int) * (a * d1) = u * D := by rw [ha, hd1]; grind
    have e2 : (G : Int) * (g : Int) * (z1 * (b : Int)) = z * (L : Int) := by rw [hz1, hb, Int.natCast_mul]; grind
    rw [e, e2, h]
  have habn : a.natAbs * d1.natAbs = z1.natAbs * b := by
    have q := congrArg Int.natAbs hab
    rw [Int.natAbs_mul, Int.natAbs_mul, Int.natAbs_natCast] at q
    exact q
  have hbd : b ∣ d1.natAbs := by
    have q : b ∣ a.natAbs * d1.natAbs := ⟨z1.natAbs, by rw [habn, Nat.mul_comm]⟩
    exact Nat.Coprime.dvd_of_dvd_mul_left (Nat.Coprime.symm cop1) q
  have hdb : d1.natAbs ∣ b := by
    have q : d1.natAbs ∣ z1.natAbs * b := ⟨a.natAbs, by rw [← habn, Nat.mul_comm]⟩
    exact Nat.Coprime.dvd_of_dvd_mul_left (Nat.Coprime.symm cop2) q
  have hdb2 : d1.natAbs = b := Nat.dvd_antisymm hdb hbd
  have hbi : (b : Int) ≠ 0 := by omega
  refine ⟨a, b, hG ▸ hG0, hg ▸ hg0, hG ▸ ha, hG ▸ hb, fun hneg => ?_, fun hpos => ?_⟩
  · have hd1n : d1 < 0 := by
      rcases (show d1 < 0 ∨ 0 ≤ d1 by omega) with q | q
      · exact q
      · exfalso
        have := Int.mul_nonneg (show (0 : Int) ≤ (g : Int) by omega) q
        omega
    have e1 : d1 = -(b : Int) := by omega
    have e2 : z1 = -a := by
      apply Int.eq_of_mul_eq_mul_right hbi
      rw [← hab, e1, Int.mul_neg, Int.neg_mul]
    rw [← hg]
    exact ⟨by rw [hz1, e2, Int.mul_neg, Int.neg_mul], by rw [hd1, e1, Int.mul_neg, Int.neg_mul]⟩
  · have hd1p : 0 < d1 := by
      rcases Int.lt_trichotomy d1 0 with q | q | q
      · exfalso
        apply hpos
        rw [hd1]
        exact Int.mul_neg_of_pos_of_neg (by omega) q
      · exfalso
        rw [q, Int.mul_zero] at hd1
        exact hD hd1
      · exact q
    have e1 : d1 = (b : Int) := by omega
    have e2 : z1 = a := by
      apply Int.eq_of_mul_eq_mul_right hbi
      rw [← hab, e1]
    rw [← hg]
    exact ⟨by rw [hz1, e2], by rw [hd1, e1]⟩
theorem answer_n {n m k b : Nat} (hn1 : 1 ≤ n) (hn : n ≤ 4) (hk : k < n) {A : Nat → Nat → Int} (hA : Told n A) {F C : Nat → Nat} {X : Nat → Int64} {fr : Nat → Int32} (hCL : CL n m A F C n n b X fr) {tl fm : Nat → Int32} (htl : ∀ j, j < 5 → ∀ i, i ≤ n → (tl (5 * j + i)).toInt = A j i) (hfm : ∀ q, q < 5 → fm q = nI (F q)) (up0 : Nat → Int64) (od : Nat → Int32) : ∃ (x y : Int64) (up : Nat → Int64) (od' : Nat → Int32) (r15 r18 : Int64) (od1 : Nat → Int32), fX0_fraction (nI k) 0 (nI n) X up0 = some (x, up) ∧ fX0_fraction (nI k) 1 (nI n) X up0 = some (y, up) ∧ fX9_determinant (-1 : Int32) (nI n) tl fm od = some (r15, od1) ∧ fX9_determinant (nI k) (nI n) tl fm od1 = some (r18, od') ∧ ∃ g, fX9_common r18 r15 = some g ∧ (r15 < (0 : Int64) → dvJ r18 (-g) = some x ∧ dvJ r15 (-g) = some y) ∧ (¬ r15 < (0 : Int64) → dvJ r18 g = some x ∧ dvJ r15 g = some y) := by
  obtain ⟨h1, h2, h3, h4, h5, h6, h7, h8, h9, h10⟩ := hCL
  have hCs : ∀ s, s < n → C s = s := by
    rcases h8 with ⟨-, -, q⟩ | ⟨-, q⟩
    · exact q
    · omega
  have z0 : (0 : Int64).toInt = 0 := rfl
  obtain ⟨p, hp⟩ : ∃ p : Nat → Nat → Int, p = fun s => A (F s) := ⟨_, rfl⟩
  have hpb : ∀ s, s < n → ∀ i, i ≤ n → (p s i).natAbs ≤ wW n i := fun s hs i hi => by rw [hp]; exact hA (F s) (h3 s (by omega)) i hi
  have hD : dd n p ≠ 0 := by
    rw [hp, ← dd_pt hn1 hn A F, pt_congr (F := F) (C := C) (by omega) (fun s hs => ⟨rfl, (hCs s hs).symm⟩)]
    exact h5
  have hDb := dd_bnd hn1 hn hpb
  have hzb := zz_bnd hn1 hn hpb
  have hort : ∀ q, q < n → sa (fun i => rw5 X q i * zz n p i) n = rw5 X q n * dd n p := fun q hq => by
    refine ort_prp (h9 q hq).1 (ort_mt (by omega) (fun s hs => ?_))
    have := cramer hn1 hn p (s := s) (by omega)
    rw [hp] at this ⊢
    exact this
  have hlow : ∀ q, q < n → ∀ i, i < q → rw5 X q i = 0 := fun q hq i hi => by
    have e := mt_rep (A := A) (F := F) (C := C) (t := q) (s := i) (by omega) hi (A (F q))
    rw [hCs i (by omega)] at e
    exact Prp_zero (by omega) (h9 q hq).1 e
  have hdiag : ∀ q, q < n → rw5 X q q ≠ 0 := fun q hq => by
    have := (h9 q hq).2.2
    rw [hCs q hq] at this
    exact this
  obtain ⟨L, up, s1, s2, s3, s4⟩ := solve_n hn1 hn hD hDb (fun i _ => hzb i) hort hlow hdiag (fun q hq i i1 i2 => by
    have := (h9 q hq).2.1 i (by omega)
    rw [wW_k i2] at this
    have := bL_2 (show q ≤ 2 by omega)
    omega) (fun q hq => by
    have := (h9 q hq).2.1 q (by omega)
    rw [wW_k hq] at this
    have := bL_le q
    omega) (fun q hq => by
    have q1 := (h9 q hq).2.1 n (Nat.le_refl _)
    have q2 : bL q * wW n n ≤ 3000000 * 9999 := Nat.mul_le_mul (bL_le q) (wW_le n n)
    omega) up0
  obtain ⟨u1, u2⟩ := s4 k hk
  obtain ⟨r15, od1, d1, d2⟩ := determinant_n hn1 hn hA h3 htl hfm (-1 : Int32) od
  obtain ⟨r18, od', d3, d4⟩ := determinant_n hn1 hn hA h3 htl hfm (nI k) od1
  have e15 : r15.toInt = dd n p := by
    rw [d2]
    refine det_d hn1 hn _ p (fun i hi c hc => ?_)
    unfold eI1
    rw [if_neg (fun q => by
      have q1 : (nI c).toInt = (c : Int) := nI_toInt (by omega)
      have q2 : (-1 : Int32).toInt = -1 := rfl
      rw [q, q2] at q1
      omega), hp]
  have e18 : r18.toInt = zz n p k := by
    rw [d4]
    refine det_z hn1 hn hk _ p (fun i hi c hc => ?_)
    unfold eI1
    by_cases q : c = k
    · rw [if_pos (by rw [q]), if_pos q, hp]
    · rw [if_neg (nI_ne q (by omega) (by omega)), if_neg q, hp]
  have hzk := hzb k
  obtain ⟨a, bb, g1, g2, g3, g4, g5, g6⟩ := frac_eq s2 hD u1
  obtain ⟨G, hG⟩ : ∃ G, G = Nat.gcd (up k).toInt.natAbs L := ⟨_, rfl⟩
  obtain ⟨g, hg⟩ : ∃ g, g = Nat.gcd (zz n p k).natAbs (dd n p).natAbs := ⟨_, rfl⟩
  rw [← hG] at g1 g3 g4
  rw [← hg] at g2 g5 g6
  have hGL : G ≤ L := by rw [hG]; exact Nat.gcd_le_right _ s2
  have hgD : g ≤ (dd n p).natAbs := by rw [hg]; exact Nat.gcd_le_right _ (by omega)
  have hLt : (lN L).toInt = (L : Int) := lN_toInt' (by omega)
  have hGt : (lN G).toInt = (G : Int) := lN_toInt' (by omega)
  have hgt : (lN g).toInt = (g : Int) := lN_toInt' (by omega)
  have hGz : ¬ lN G = (0 : Int64) := fun e => by
    have := (lN_z (by omega)).mp e
    omega
  -- the class
  have hgcd8 : fX5_greatestPart (up k) (lN L) = some (lN G) := by
    rw [gcd8 (by omega) (by rw [hLt]; omega), hLt, Int.natAbs_natCast, ← hG]
  obtain ⟨v1, v2⟩ := div64 (a := up k) (b := lN G) (by rw [hGt]; omega) (by omega)
  obtain ⟨v3, v4⟩ := div64 (a := lN L) (b := lN G) (by rw [hGt]; omega) (by rw [hLt]; omega)
  have x1 : (up k / lN G).toInt = a := by
    rw [v2, hGt]
    rw [g3]
    exact Int.mul_tdiv_cancel_left _ (by omega)
  have y1 : (lN L / lN G).toInt = (bb : Int) := by
    rw [v4, hGt, hLt, g4, Int.natCast_mul]
    exact Int.mul_tdiv_cancel_left _ (by omega)
  -- the reference
  have hgcd9 : fX9_common r18 r15 = some (lN g) := by
    rw [gcd9 (by rw [e18]; omega) (by rw [e15]; omega), e18, e15, ← hg]
  refine ⟨up k / lN G, lN L / lN G, up, od', r15, r18, od1, ?_, ?_, d1, d3, lN g, hgcd9, fun hneg => ?_, fun hpos => ?_⟩
  · unfold fX0_fraction
    rw [s1]
    simp only [bn2, Option.bind_some]
    rw [upper_n (by omega)]
    simp only [Option.bind_some]
    rw [hgcd8]
    simp only [Option.bind_some]
    rw [if_neg hGz, v1]
    rfl
  · unfold fX0_fraction
    rw [s1]
    simp only [bn2, Option.bind_some]
    rw [upper_n (by omega)]
    simp only [Option.bind_some]
    rw [hgcd8]
    simp only [Option.bind_some]
    rw [if_neg hGz, v3]
    rfl
  · rw [Int64.lt_iff_toInt_lt, e15, z0] at hneg
    obtain ⟨q1, q2⟩ := g5 hneg
    have hngt : (-lN g).toInt = -(g : Int) := by rw [t64_neg (by rw [hgt]; omega), hgt]
    obtain ⟨w1, w2⟩ := div64 (a := r18) (b := -lN g) (by rw [hngt]; omega) (by rw [e18]; omega)
    obtain ⟨w3, w4⟩ := div64 (a := r15) (b := -lN g) (by rw [hngt]; omega) (by rw [e15]; omega)
    constructor
    · rw [w1]
      refine congrArg some (Int64.toInt_inj.mp ?_)
      rw [w2, x1, hngt, e18, q1]
      exact Int.mul_tdiv_cancel_left _ (by omega)
    · rw [w3]
      refine congrArg some (Int64.toInt_inj.mp ?_)
      rw [w4, y1, hngt, e15, q2]
      exact Int.mul_tdiv_cancel_left _ (by omega)
  · rw [Int64.lt_iff_toInt_lt, e15, z0] at hpos
    obtain ⟨q1, q2⟩ := g6 hpos
    obtain ⟨w1, w2⟩ := div64 (a := r18) (b := lN g) (by rw [hgt]; omega) (by rw [e18]; omega)
    obtain ⟨w3, w4⟩ := div64 (a := r15) (b := lN g) (by rw [hgt]; omega) (by rw [e15]; omega)
    constructor
    · rw [w1]
      refine congrArg some (Int64.toInt_inj.mp ?_)
      rw [w2, x1, hgt, e18, q1]
      exact Int.mul_tdiv_cancel_left _ (by omega)
    · rw [w3]
      refine congrArg some (Int64.toInt_inj.mp ?_)
      rw [w4, y1, hgt, e15, q2]
      exact Int.mul_tdiv_cancel_left _ (by omega)
theorem part_cases (p1 : Int32) : (p1 = 0 ∨ p1 = 1) ∧ ¬ p1 < (0 : Int32) ∧ ¬ (1 : Int32) < p1 ∧ fX9_in p1.toInt64 (0 : Int64) (1 : Int64) = some 1 ∨ (p1 < (0 : Int32) ∨ ¬ p1 < (0 : Int32) ∧ (1 : Int32) < p1) ∧ fX9_in p1.toInt64 (0 : Int64) (1 : Int64) = some 0 := by
  have f0 : (0 : Int64).toInt = 0 := rfl
  have f1 : (1 : Int64).toInt = 1 := rfl
  have e0 : (0 : Int32).toInt = 0 := rfl
  have e1 : (1 : Int32).toInt = 1 := rfl
  rcases rng p1 2 (by omega) with ⟨k, hk, rfl⟩ | q
  · left
    rcases (show k = 0 ∨ k = 1 by omega) with rfl | rfl
    · exact ⟨Or.inl rfl, by decide, by decide, in9_y (by decide) (by decide)⟩
    · exact ⟨Or.inr rfl, by decide, by decide, in9_y (by decide) (by decide)⟩
  · right
    refine ⟨?_, in9_no (by rw [t32_to64, f0, f1]; omega)⟩
    rw [Int32.lt_iff_toInt_lt, Int32.lt_iff_toInt_lt, e0, e1]
    omega
theorem G_answer (p0 p1 : Int32) {Xn Xm g Mn Mm tl} (h : RD Xn Xm g Mn Mm tl) (a1 a2 : Int32) (X0 : Nat → Int64) (fr0 : Nat → Int32) (up0 : Nat → Int64) (b1 b2 b3 : Int32) (M0 : Nat → Int64) (fm0 od : Nat → Int32) : ∃ (r : Int64) (o1 o2 : Int32) (o3 : Nat → Int64) (o4 : Nat → Int32) (o5 : Nat → Int64) (q1 q2 q3 : Int32) (q4 : Nat → Int64) (q5 q6 : Nat → Int32), fX8_answer p0 p1 Xn Xm a1 a2 g X0 fr0 up0 = some (r, o1, o2, o3, o4, o5) ∧ fX9_answer p0 p1 Mn Mm b1 b2 b3 tl M0 fm0 od = some (r, q1, q2, q3, q4, q5, q6) := by
  obtain ⟨n, m, A, n1, n4, m1, m5, rfl, rfl, rfl, rfl, h1, h2, h3⟩ := RD_told h
  have htl : ∀ j, j < 5 → ∀ i, i ≤ n → (tl (5 * j + i)).toInt = A j i := fun j hj i hi => by rw [h1 _ (by omega)]; exact h3 j hj i hi
  unfold fX8_answer fX9_answer
  rcases isU_cases p0 ⟨n1, n4⟩ with ⟨k, hk, rfl, u1, u2⟩ | ⟨u1, u2⟩
  · rw [u1, u2]
    simp only [Option.bind_some, i10]
    rcases part_cases p1 with ⟨w1, w2, w3, w4⟩ | ⟨w1, w4⟩
    · obtain ⟨r, tk, t, b, X', fr, M', fm, F, C, k1, k2, k3, k4, k5, k6⟩ := kind_n n1 n4 m1 m5 h2 h1 h3 a1 a2 X0 fr0 b1 b2 b3 M0 fm0
      rw [if_neg w2, if_neg w3, w4, k1, k3]
      simp only [Option.bind_some, i10, bn4, bn6]
      rw [k2]
      simp only [Option.bind_some]
      by_cases c : r = 1
      · have htn := k6 c
        subst htn
        obtain ⟨x, y, up, od', r15, r18, od1, v1, v2, v3, v4, gg, v5, v6, v7⟩ := answer_n n1 n4 hk h2 k5 htl k4 up0 od
        rw [if_pos c, if_pos c, v3]
        simp only [Option.bind_some, bn2]
        rw [v4]
        simp only [Option.bind_some, bn2]
        rw [v5]
        simp only [Option.bind_some, bn2]
        rcases w1 with rfl | rfl
        · rw [v1]
          by_cases s : r15 < (0 : Int64)
          · rw [if_pos s, (v6 s).1]
            exact ⟨_, _, _, _, _, _, _, _, _, _, _, _, rfl, rfl⟩
          · rw [if_neg s, (v7 s).1]
            exact ⟨_, _, _, _, _, _, _, _, _, _, _, _, rfl, rfl⟩
        · rw [v2]
          by_cases s : r15 < (0 : Int64)
          · rw [if_pos s, (v6 s).2]
            exact ⟨_, _, _, _, _, _, _, _, _, _, _, _, rfl, rfl⟩
          · rw [if_neg s, (v7 s).2]
            exact ⟨_, _, _, _, _, _, _, _, _, _, _, _, rfl, rfl⟩
      · rw [if_neg c, if_neg c]
        exact ⟨_, _, _, _, _, _, _, _, _, _, _, _, rfl, rfl⟩
    · rw [w4]
      rcases w1 with w1 | ⟨w1, w2⟩
      · rw [if_pos w1]
        exact ⟨_, _, _, _, _, _, _, _, _, _, _, _, rfl, rfl⟩
      · rw [if_neg w1, if_pos w2]
        exact ⟨_, _, _, _, _, _, _, _, _, _, _, _, rfl, rfl⟩
  · rw [u1, u2]
    exact ⟨_, _, _, _, _, _, _, _, _, _, _, _, rfl, rfl⟩
