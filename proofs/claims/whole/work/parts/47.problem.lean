theorem lN_nlt {a b : Nat} (h : b ≤ a) (ha : a < 2 ^ 63) (hb : b < 2 ^ 63) : ¬ lN a < lN b := fun e => by
  have := (lN_ltI ha hb).mp e
  omega
theorem G_problem (p0 p1 p2 p3 p4 p5 : Int32) : ∃ r : Int64, fX8_problem p0 p1 p2 p3 p4 p5 = some r ∧ fX9_problem p0 p1 p2 p3 p4 p5 = some r := by
  have out8 : ¬ ((0 ≤ p0.toInt ∧ p0.toInt ≤ 5) ∧ (0 ≤ p5.toInt ∧ p5.toInt ≤ 1) ∧ (0 ≤ p1.toInt ∧ p1.toInt ≤ 1000000) ∧ (0 ≤ p2.toInt ∧ p2.toInt ≤ 1000000) ∧ (0 ≤ p3.toInt ∧ p3.toInt ≤ 1000000) ∧ (0 ≤ p4.toInt ∧ p4.toInt ≤ 1000000)) → fX8_problem p0 p1 p2 p3 p4 p5 = some (-1000000000000002 : Int64) ∧ fX9_problem p0 p1 p2 p3 p4 p5 = some (-1000000000000002 : Int64) := by
    intro hb
    have e0 : (0 : Int32).toInt = 0 := rfl
    have e1 : (1 : Int32).toInt = 1 := rfl
    have e5 : (5 : Int32).toInt = 5 := rfl
    have f0 : (0 : Int64).toInt = 0 := rfl
    have f1 : (1 : Int64).toInt = 1 := rfl
    have f5 : (5 : Int64).toInt = 5 := rfl
    constructor
    · unfold fX8_problem
      rw [(told8 p1).1, (told8 p2).1, (told8 p3).1, (told8 p4).1]
      simp only [Option.bind_some, Int32.lt_iff_toInt_lt, e0, e1, e5]
      by_cases c1 : p0.toInt < 0
      · rw [if_pos c1]
      · rw [if_neg c1]
        by_cases c2 : 5 < p0.toInt
        · rw [if_pos c2]
        · rw [if_neg c2]
          by_cases c3 : p5.toInt < 0
          · rw [if_pos c3]
          · rw [if_neg c3]
            by_cases c4 : 1 < p5.toInt
            · rw [if_pos c4]
            · rw [if_neg c4]
              by_cases d1 : 0 ≤ p1.toInt ∧ p1.toInt ≤ 1000000
              · by_cases d2 : 0 ≤ p2.toInt ∧ p2.toInt ≤ 1000000
                · by_cases d3 : 0 ≤ p3.toInt ∧ p3.toInt ≤ 1000000
                  · by_cases d4 : 0 ≤ p4.toInt ∧ p4.toInt ≤ 1000000
                    · exact absurd ⟨⟨by omega, by omega⟩, ⟨by omega, by omega⟩, d1, d2, d3, d4⟩ hb
                    · rw [if_pos d1, if_pos d2, if_pos d3, if_neg d4, i10, i10, i10, i00]
                  · rw [if_pos d1, if_pos d2, if_neg d3, i10, i10, i00]
                · rw [if_pos d1, if_neg d2, i10, i00]
              · rw [if_neg d1, i00]
    · unfold fX9_problem
      rw [(told8 p1).2, (told8 p2).2, (told8 p3).2, (told8 p4).2]
      simp only [Option.bind_some]
      have k0 : fX9_problem_B35 p0 p1 p2 p3 p4 p5 (0 : Int32) = some (-1000000000000002 : Int64) := by
        unfold fX9_problem_B35
        rw [in9, t32_to64, f0, f5, Option.bind_some]
        by_cases c : 0 ≤ p0.toInt ∧ p0.toInt ≤ 5
        · rw [if_pos c, i10, i00]
        · rw [if_neg c, i00]
      have k34 : fX9_problem_B34 p0 p1 p2 p3 p4 p5 = some (-1000000000000002 : Int64) := k0
      rw [k34]
      by_cases d1 : 0 ≤ p1.toInt ∧ p1.toInt ≤ 1000000
      · by_cases d2 : 0 ≤ p2.toInt ∧ p2.toInt ≤ 1000000
        · by_cases d3 : 0 ≤ p3.toInt ∧ p3.toInt ≤ 1000000
          · by_cases d4 : 0 ≤ p4.toInt ∧ p4.toInt ≤ 1000000
            · rw [if_pos d1, if_pos d2, if_pos d3, if_pos d4, i10, i10, i10, i10]
              unfold fX9_problem_B35
              rw [in9, t32_to64, f0, f5]
              simp only [Option.bind_some]
              by_cases c : 0 ≤ p0.toInt ∧ p0.toInt ≤ 5
              · rw [if_pos c, i10, i10, in9, t32_to64, f0, f1]
                simp only [Option.bind_some]
                rw [if_neg (show ¬ (0 ≤ p5.toInt ∧ p5.toInt ≤ 1) from fun z => hb ⟨c, z, d1, d2, d3, d4⟩), i00]
              · rw [if_neg c, i00]
            · rw [if_pos d1, if_pos d2, if_pos d3, if_neg d4, i10, i10, i10, i00]
          · rw [if_pos d1, if_pos d2, if_neg d3, i10, i10, i00]
        · rw [if_pos d1, if_neg d2, i10, i00]
      · rw [if_neg d1, i00]
  by_cases hb : ((0 ≤ p0.toInt ∧ p0.toInt ≤ 5) ∧ (0 ≤ p5.toInt ∧ p5.toInt ≤ 1) ∧ (0 ≤ p1.toInt ∧ p1.toInt ≤ 1000000) ∧ (0 ≤ p2.toInt ∧ p2.toInt ≤ 1000000) ∧ (0 ≤ p3.toInt ∧ p3.toInt ≤ 1000000) ∧ (0 ≤ p4.toInt ∧ p4.toInt ≤ 1000000))
  · obtain ⟨h0, h5, h1, h2, h3, h4⟩ := hb
    have core : ∀ q : Int32, (q = 0 ∨ q = 1) → ∃ r : Int64, fX8_problem p0 p1 p2 p3 p4 q = some r ∧ fX9_problem p0 p1 p2 p3 p4 q = some r := by
      intro q hq
      have hqi : 0 ≤ q.toInt ∧ q.toInt ≤ 1 := by rcases hq with rfl | rfl <;> decide
      have hq1 : q = 0 ∨ q = 1 ∧ ¬ q = 0 := by rcases hq with rfl | rfl; exact Or.inl rfl; exact Or.inr ⟨rfl, by decide⟩
      obtain ⟨x, hx, rfl⟩ : ∃ x : Nat, x ≤ 1000000 ∧ p1 = nI x := ⟨p1.toInt.toNat, by omega, nI_of_toInt (by omega)⟩
      obtain ⟨y, hy, rfl⟩ : ∃ x : Nat, x ≤ 1000000 ∧ p2 = nI x := ⟨p2.toInt.toNat, by omega, nI_of_toInt (by omega)⟩
      obtain ⟨z, hz, rfl⟩ : ∃ x : Nat, x ≤ 1000000 ∧ p3 = nI x := ⟨p3.toInt.toNat, by omega, nI_of_toInt (by omega)⟩
      obtain ⟨w, hw, rfl⟩ : ∃ x : Nat, x ≤ 1000000 ∧ p4 = nI x := ⟨p4.toInt.toNat, by omega, nI_of_toInt (by omega)⟩
      obtain ⟨k, hk, rfl⟩ : ∃ x : Nat, x < 6 ∧ p0 = nI x := ⟨p0.toInt.toNat, by omega, nI_of_toInt (by omega)⟩
      have f0 : (0 : Int64).toInt = 0 := rfl
      have f1 : (1 : Int64).toInt = 1 := rfl
      unfold fX8_problem fX9_problem
      rw [(told8 _).1, (told8 _).1, (told8 _).1, (told8 _).1, (told8 _).2, (told8 _).2, (told8 _).2, (told8 _).2]
      simp only [Option.bind_some]
      rw [if_pos h1, if_pos h2, if_pos h3, if_pos h4]
      simp only [i10]
      rw [if_neg (nI_not_neg (by omega)), if_neg (show ¬ (5 : Int32) < nI k from nI_nlt (a := 5) (by omega) (by decide)), if_neg (show ¬ q < (0 : Int32) by rw [Int32.lt_iff_toInt_lt]; show ¬ q.toInt < 0; omega), if_neg (show ¬ (1 : Int32) < q by rw [Int32.lt_iff_toInt_lt]; show ¬ 1 < q.toInt; omega)]
      unfold fX9_problem_B35
      rw [in9_y (by rw [nI_64 (by omega)]; exact Int.natCast_nonneg _) (by rw [nI_64 (by omega)]; show (k : Int) ≤ 5; omega)]
      simp only [Option.bind_some, i10]
      rw [in9_y (by rw [t32_to64]; exact hqi.1) (by rw [t32_to64]; exact hqi.2)]
      simp only [Option.bind_some, i10]
      rcases (show k = 0 ∨ k = 1 ∨ k = 2 ∨ k = 3 ∨ k = 4 ∨ k = 5 by omega) with rfl | rfl | rfl | rfl | rfl | rfl
      · -- a field
        rw [if_pos (show nI 0 = (0 : Int32) from rfl), if_pos (show nI 0 = (0 : Int32) from rfl)]
        have hm : x * y ≤ 1000000 * 1000000 := Nat.mul_le_mul hx hy
        rw [nI_l (by omega), nI_l (by omega), lN_mul, if_neg (lN_nn (by omega))]
        by_cases q0 : q = 0
        · rw [if_pos q0]; exact ⟨_, rfl, rfl⟩
        · rw [if_neg q0]; exact ⟨_, rfl, rfl⟩
      · -- shared
        rw [if_neg (show ¬ nI 1 = (0 : Int32) by decide), if_pos (show nI 1 = (1 : Int32) from rfl), if_neg (show ¬ nI 1 = (0 : Int32) by decide), if_pos (show nI 1 = (1 : Int32) from rfl)]
        unfold fX4_shared
        rcases Nat.eq_zero_or_pos y with rfl | hy0
        · rw [if_pos (show nI 0 = (0 : Int32) from rfl), if_neg (show ¬ (0 : Int32) < nI 0 by decide), B115_n (by decide) (by decide), B234_n (by decide) (by decide)]
          exact ⟨_, rfl, rfl⟩
        · have hne : ¬ nI y = (0 : Int32) := fun e => by have := (nI_z (by omega)).mp e; omega
          rw [if_neg hne, if_pos ((nI_p (by omega)).mpr hy0)]
          unfold dvI rmI
          rw [if_neg hne, if_neg hne, nI_div (by omega) (by omega) hy0]
          simp only [Option.bind_some]
          have h9 : x / y ≤ x := Nat.div_le_self _ _
          rw [nI_l (by omega), if_neg (lN_nn (by omega))]
          rcases hq1 with rfl | ⟨rfl, q0⟩
          · rw [if_pos rfl]; exact ⟨_, rfl, rfl⟩
          · rw [if_neg q0]; exact ⟨_, rfl, rfl⟩
      · -- a side
        rw [if_neg (show ¬ nI 2 = (0 : Int32) by decide), if_neg (show ¬ nI 2 = (1 : Int32) by decide), if_pos (show nI 2 = (2 : Int32) from rfl), if_neg (show ¬ nI 2 = (0 : Int32) by decide), if_neg (show ¬ nI 2 = (1 : Int32) by decide)]
        unfold fX4_side fX9_problem_B115
        rw [if_pos (show nI 2 = (2 : Int32) from rfl)]
        obtain ⟨s, hs, g1, g2⟩ := side_both hx q q
        rw [g1, g2]
        simp only [Option.bind_some]
        rw [if_neg (lN_nn (by omega))]
        by_cases q0 : q = 0
        · rw [if_pos q0]; exact ⟨_, rfl, rfl⟩
        · rw [if_neg q0]; exact ⟨_, rfl, rfl⟩
      · -- birds and beasts
        rw [if_neg (show ¬ nI 3 = (0 : Int32) by decide), if_neg (show ¬ nI 3 = (1 : Int32) by decide), if_neg (show ¬ nI 3 = (2 : Int32) by decide), if_pos (show nI 3 = (3 : Int32) from rfl), if_neg (show ¬ nI 3 = (0 : Int32) by decide), if_neg (show ¬ nI 3 = (1 : Int32) by decide)]
        unfold fX4_birdsAndBeasts fX9_problem_B115
        rw [if_neg (show ¬ nI 3 = (2 : Int32) by decide), if_pos (show nI 3 = (3 : Int32) from rfl)]
        have no : (if (-1000000000000005 : Int64) < 0 then some (-1000000000000005 : Int64) else if q = 0 then some (-1000000000000005 : Int64) else some (0 : Int64)) = some (-1000000000000005 : Int64) := if_pos (by decide)
        rcases Nat.lt_or_ge 2 z with hz2 | hz2
        · have ez : nI z - (2 : Int32) = nI (z - 2) := nI_sub (b := 2) (by omega)
          have e2x : (2 : Int32) * nI x = nI (2 * x) := nI_mul 2 x
          have f2x : (2 : Int64) * lN x = lN (2 * x) := lN_mul 2 x
          rw [ez, e2x, if_pos ((nI_p (by omega)).mpr (by omega)), if_pos (show (2 : Int32) < nI z from nI_lt (a := 2) hz2 (by omega)), nI_l (by omega), nI_l (by omega), nI_l (by omega), f2x]
          have hzne : ¬ nI (z - 2) = (0 : Int32) := fun e => by have := (nI_z (by omega)).mp e; omega
          have hzne2 : ¬ lN (z - 2) = (0 : Int64) := fun e => by have := (lN_z (by omega)).mp e; omega
          rcases Nat.lt_or_ge y (2 * x) with hlt | hge
          · have c1 : nI y - nI (2 * x) < (0 : Int32) := by
              have e9 : (nI y - nI (2 * x)).toInt = (y : Int) - (2 * x : Nat) := by rw [t32_sub] <;> rw [nI_toInt (by omega), nI_toInt (by omega)] <;> omega
              rw [Int32.lt_iff_toInt_lt, e9]
              show (y : Int) - (2 * x : Nat) < 0
              omega
            have c2 : lN y - lN (2 * x) < (0 : Int64) := by
              have e9 : (lN y - lN (2 * x)).toInt = (y : Int) - (2 * x : Nat) := by rw [t64_sub] <;> rw [lN_toInt' (by omega), lN_toInt' (by omega)] <;> omega
              rw [Int64.lt_iff_toInt_lt, e9]
              show (y : Int) - (2 * x : Nat) < 0
              omega
            unfold dvJ
            rw [if_pos c1, if_neg hzne2]
            simp only [Option.bind_some]
            rw [if_pos c2, no]
            exact ⟨_, rfl, rfl⟩
          · rw [nI_sub hge, lN_sub hge, if_neg (nI_not_neg (by omega))]
            unfold rmI dvI dvJ rmJ
            rw [if_neg hzne, if_neg hzne, if_neg hzne2, if_neg hzne2, nI_mod (by omega) (by omega), nI_div (by omega) (by omega) (by omega), lN_mod (by omega) (by omega), lN_div (by omega) (by omega) (by omega)]
            simp only [Option.bind_some]
            rw [if_neg (lN_nn (by omega))]
            have hm : (y - 2 * x) % (z - 2) < z - 2 := Nat.mod_lt _ (by omega)
            have hd : (y - 2 * x) / (z - 2) ≤ y - 2 * x := Nat.div_le_self _ _
            generalize (y - 2 * x) / (z - 2) = D at hd ⊢
            by_cases c : (y - 2 * x) % (z - 2) = 0
            · rw [if_pos ((nI_z (by omega)).mpr c), if_pos ((lN_z (by omega)).mpr c)]
              rcases Nat.lt_or_ge x D with k1 | k1
              · rw [if_pos (nI_lt k1 (by omega)), if_pos ((lN_ltI (by omega) (by omega)).mpr k1), no]
                exact ⟨_, rfl, rfl⟩
              · rw [if_neg (nI_nlt k1 (by omega)), if_neg (lN_nlt k1 (by omega) (by omega)), nI_sub k1, lN_sub k1, if_neg (lN_nn (by omega)), nI_l (n := x - D) (by omega), nI_l (n := D) (by omega)]
                rcases hq1 with rfl | ⟨rfl, q0⟩
                · rw [if_pos rfl]; exact ⟨_, rfl, rfl⟩
                · rw [if_neg q0]; exact ⟨_, rfl, rfl⟩
            · rw [if_neg (fun e => c ((nI_z (by omega)).mp e)), if_neg (fun e => c ((lN_z (by omega)).mp e)), no]
              exact ⟨_, rfl, rfl⟩
        · rw [if_neg (show ¬ (2 : Int32) < nI z from nI_nlt (a := 2) hz2 (by decide)), B234_n (by decide) (by decide), if_neg]
          · exact ⟨_, rfl, rfl⟩
          · have e7 : (2 : Int32).toInt = 2 := rfl
            have e9 : (nI z - (2 : Int32)).toInt = (z : Int) - 2 := by rw [t32_sub] <;> rw [nI_toInt (by omega), e7] <;> omega
            rw [Int32.lt_iff_toInt_lt, e9]
            show ¬ (0 : Int) < z - 2
            omega
      · -- what leaves so by 3, 5, 7
        rw [if_neg (show ¬ nI 4 = (0 : Int32) by decide), if_neg (show ¬ nI 4 = (1 : Int32) by decide), if_neg (show ¬ nI 4 = (2 : Int32) by decide), if_neg (show ¬ nI 4 = (3 : Int32) by decide), if_pos (show nI 4 = (4 : Int32) from rfl), if_neg (show ¬ nI 4 = (0 : Int32) by decide), if_neg (show ¬ nI 4 = (1 : Int32) by decide), B115_n (by decide) (by decide)]
        unfold fX4_leftByThreeFiveSeven fX9_problem_B234
        rw [if_pos (show nI 4 = (4 : Int32) from rfl)]
        have no := B305_n (x1 := nI 4) (x2 := nI x) (x3 := nI y) (x4 := nI z) (x5 := nI w) (x6 := q) (by decide)
        rcases Nat.lt_or_ge x 3 with a | a
        · rcases Nat.lt_or_ge y 5 with b | b
          · rcases Nat.lt_or_ge z 7 with c | c
            · obtain ⟨g1, g2⟩ := left357 x a y b z c
              rw [if_pos (show nI x < (3 : Int32) from nI_lt (b := 3) a (by decide)), if_pos (show nI y < (5 : Int32) from nI_lt (b := 5) b (by decide)), if_pos (show nI z < (7 : Int32) from nI_lt (b := 7) c (by decide))]
              rw [if_pos (show nI x < (3 : Int32) from nI_lt (b := 3) a (by decide)), if_pos (show nI y < (5 : Int32) from nI_lt (b := 5) b (by decide)), if_pos (show nI z < (7 : Int32) from nI_lt (b := 7) c (by decide))]
              rw [g1, show itr (fX9_problem_L259 (nI x) (nI y) (nI z) q (0 : Int64)) KF (0 : Int64) = some (lN (p357 x y z)) from g2]
              have hp : p357 x y z < 105 := Nat.mod_lt _ (by decide)
              simp only [Option.bind_some, Sum.elim_inr]
              rw [if_neg (lN_nn (by omega))]
              rcases hq with rfl | rfl
              · rw [if_neg (by decide), if_pos rfl]; exact ⟨_, rfl, rfl⟩
              · rw [if_pos rfl, if_neg (by decide)]; exact ⟨_, rfl, rfl⟩
            · rw [if_neg (show ¬ nI z < (7 : Int32) from nI_nlt (b := 7) c (by omega)), if_neg (show ¬ nI z < (7 : Int32) from nI_nlt (b := 7) c (by omega)), no]
              refine ⟨(-1000000000000005 : Int64), ?_, ?_⟩ <;> (split <;> try rfl) <;> (split <;> rfl)
          · rw [if_neg (show ¬ nI y < (5 : Int32) from nI_nlt (b := 5) b (by omega)), if_neg (show ¬ nI y < (5 : Int32) from nI_nlt (b := 5) b (by omega)), no]
            refine ⟨(-1000000000000005 : Int64), ?_, ?_⟩ <;> (split <;> rfl)
        · rw [if_neg (show ¬ nI x < (3 : Int32) from nI_nlt (b := 3) a (by omega)), if_neg (show ¬ nI x < (3 : Int32) from nI_nlt (b := 3) a (by omega)), no]
          exact ⟨_, rfl, rfl⟩
      · -- bought together
        rw [if_neg (show ¬ nI 5 = (0 : Int32) by decide), if_neg (show ¬ nI 5 = (1 : Int32) by decide), if_neg (show ¬ nI 5 = (2 : Int32) by decide), if_neg (show ¬ nI 5 = (3 : Int32) by decide), if_neg (show ¬ nI 5 = (4 : Int32) by decide), if_neg (show ¬ nI 5 = (0 : Int32) by decide), if_neg (show ¬ nI 5 = (1 : Int32) by decide), B115_n (by decide) (by decide)]
        unfold fX4_boughtTogether fX9_problem_B234
        rw [if_neg (show ¬ nI 5 = (4 : Int32) by decide)]
        unfold fX9_problem_B305
        rw [if_pos (show nI 5 = (5 : Int32) from rfl)]
        have no : (if (-1000000000000005 : Int64) < 0 then some (-1000000000000005 : Int64) else if q = 0 then some (-1000000000000005 : Int64) else some (0 : Int64)) = some (-1000000000000005 : Int64) := if_pos (by decide)
        rw [no]
        rcases Nat.lt_or_ge z x with hlt | hge
        · have hn1 : ¬ nI (x - z) = (0 : Int32) := fun e => by have := (nI_z (by omega)).mp e; omega
          have hn2 : ¬ lN (x - z) = (0 : Int64) := fun e => by have := (lN_z (by omega)).mp e; omega
          rw [nI_sub (by omega), if_pos ((nI_p (by omega)).mpr (by omega)), if_pos (nI_lt hlt (by omega)), nI_add, nI_l (by omega), nI_l (by omega), nI_l (by omega), nI_l (by omega), lN_add]
          unfold rmI dvI dvJ rmJ
          rw [if_neg hn1, if_neg hn1, if_neg hn2, if_neg hn2, nI_mod (by omega) (by omega), nI_div (by omega) (by omega) (by omega), lN_mod (by omega) (by omega), lN_div (by omega) (by omega) (by omega)]
          simp only [Option.bind_some]
          have hm : (y + w) % (x - z) < x - z := Nat.mod_lt _ (by omega)
          have hd : (y + w) / (x - z) ≤ y + w := Nat.div_le_self _ _
          by_cases c : (y + w) % (x - z) = 0
          · rw [if_pos ((nI_z (by omega)).mpr c), if_pos ((lN_z (by omega)).mpr c)]
            have hv : (x - z) * ((y + w) / (x - z)) = y + w := by
              have := Nat.div_add_mod (y + w) (x - z)
              omega
            have hle : (x - z) * ((y + w) / (x - z)) ≤ x * ((y + w) / (x - z)) := Nat.mul_le_mul_right _ (by omega)
            have hup : (y + w) / (x - z) * x ≤ 2000000 * 1000000 := Nat.mul_le_mul (by omega) hx
            have hcm : x * ((y + w) / (x - z)) = (y + w) / (x - z) * x := Nat.mul_comm _ _
            rw [nI_l (by omega), lN_mul, if_neg (lN_nlt (a := (y + w) / (x - z) * x) (b := y) (by omega) (by omega) (by omega)), if_neg (lN_nn (by omega))]
            by_cases q0 : q = 0
            · rw [if_pos q0]; exact ⟨_, rfl, rfl⟩
            · rw [if_neg q0]; exact ⟨_, rfl, rfl⟩
          · rw [if_neg (fun e => c ((nI_z (by omega)).mp e)), if_neg (fun e => c ((lN_z (by omega)).mp e))]
            exact ⟨_, rfl, rfl⟩
        · rw [if_neg (show ¬ nI z < nI x from nI_nlt hge (by omega)), if_neg]
          · exact ⟨_, rfl, rfl⟩
          · have e9 : (nI x - nI z).toInt = (x : Int) - z := by rw [t32_sub] <;> rw [nI_toInt (by omega), nI_toInt (by omega)] <;> omega
            rw [Int32.lt_iff_toInt_lt, e9]
            show ¬ (0 : Int) < x - z
            omega
    have hq : p5 = 0 ∨ p5 = 1 := by
      rcases (show p5.toInt = 0 ∨ p5.toInt = 1 by omega) with q | q
      · left; exact nI_of_toInt (n := 0) q
      · right; exact nI_of_toInt (n := 1) q
    exact core p5 hq
  · obtain ⟨g1, g2⟩ := out8 hb
    exact ⟨_, g1, g2⟩
