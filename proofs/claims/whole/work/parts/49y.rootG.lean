/-! ===== root: the method ===== -/
theorem root_n (p : Int32) : (∃ k L, (k = 3 ∧ L = 6 ∨ k = 4 ∧ L = 4) ∧ p = nI (k - 1)) ∨ (¬ p = (2 : Int32) ∧ ¬ p = (3 : Int32) ∧ fX9_in p.toInt64 (2 : Int64) (3 : Int64) = some 0) := by
  by_cases c2 : p = (2 : Int32)
  · exact Or.inl ⟨3, 6, Or.inl ⟨rfl, rfl⟩, c2⟩
  · by_cases c3 : p = (3 : Int32)
    · exact Or.inl ⟨4, 4, Or.inr ⟨rfl, rfl⟩, c3⟩
    · refine Or.inr ⟨c2, c3, ?_⟩
      rw [in9_no]
      rw [t32_to64]
      show ¬ (2 ≤ p.toInt ∧ p.toInt ≤ 3)
      rintro ⟨h1, h2⟩
      rcases (show p.toInt = 2 ∨ p.toInt = 3 by omega) with e | e
      · exact c2 (Int32.toInt_inj.mp e)
      · exact c3 (Int32.toInt_inj.mp e)
theorem G_root (p0 p1 p2 : Int32) {Xr Mr : Nat → Int64} (hA : RA Xr Mr) {Xb Xc Xn Cb Cc Cn Mb Mc Mn Mh My Mg} (h : RC Xb Xc Xn Cb Cc Cn Mb Mc Mn Mh My Mg) (st isB : Int32) (hand nb : Nat → Int64) (nn : Nat → Int32) : ∃ (r : Int32) (o0 : Nat → Int64) (o1 : Int32) (o2 : Nat → Int64) (o3 : Nat → Int32) (o4 q0 q1 q2 q3 : Int32) (q4 q5 : Nat → Int64) (q6 : Nat → Int32) (q7 q8 : Nat → Int64) (q9 : Nat → Int32), fX8_root p0 p1 p2 Xr Xb Xc Xn Cb = some (r, o0, o1, o2, o3, o4) ∧ fX9_root p0 p1 p2 Mb Mh st isB Mr Mc Mn hand nb nn = some (r, q0, q1, q2, q3, q4, q5, q6, q7, q8, q9) ∧ RA o0 q4 ∧ RC o1 o2 o3 o4 Cc Cn q0 q5 q6 q1 My Mg := by
  have z : (0 : Int64).toInt = 0 := rfl
  unfold fX8_root fX9_root
  rcases row_cases p0 with ⟨A, hA8, rfl, a1, a2⟩ | ⟨a1, a2⟩
  · rw [a1, a2]
    simp only [Option.bind_some, i10]
    rcases row_cases p1 with ⟨B, hB8, rfl, b1, b2⟩ | ⟨b1, b2⟩
    · rw [b1, b2]
      simp only [Option.bind_some, i10]
      rcases root_n p2 with ⟨k, L, hk, rfl⟩ | ⟨n2, n3, n4⟩
      · have hin : fX9_in (nI (k - 1)).toInt64 (2 : Int64) (3 : Int64) = some 1 := by
          rcases hk with ⟨rfl, rfl⟩ | ⟨rfl, rfl⟩
          · exact in9_y (by decide) (by decide)
          · exact in9_y (by decide) (by decide)
        have e8 : ∀ {α : Type} (x y : α), (if nI (k - 1) = (2 : Int32) then x else if nI (k - 1) = (3 : Int32) then x else y) = x := by
          intro α x y
          rcases hk with ⟨rfl, rfl⟩ | ⟨rfl, rfl⟩
          · exact if_pos rfl
          · exact (if_neg (by decide)).trans (if_pos rfl)
        have e9 : ∀ {α : Type} (F : Int32 → Option α), (if nI (k - 1) = (2 : Int32) then F (5 : Int32) else F (3 : Int32)) = F (dn L) := by
          intro α F
          rcases hk with ⟨rfl, rfl⟩ | ⟨rfl, rfl⟩
          · exact if_pos rfl
          · exact if_neg (by decide)
        rw [hin, e8]
        simp only [Option.bind_some, i10]
        unfold fX8_root_B29
        by_cases e1 : A = B
        · rw [if_pos (show nI A = nI B by rw [e1]), if_pos (show nI A = nI B by rw [e1])]
          exact ⟨_, _, _, _, _, _, _, _, _, _, _, _, _, _, _, _, rfl, rfl, hA, h⟩
        · rw [if_neg (nI_ne e1 (by omega) (by omega)), if_neg (nI_ne e1 (by omega) (by omega)), held_n hA8, rdJ_n hA8 (by decide), (hA A hA8).1]
          simp only [Option.bind_some]
          by_cases n0 : Xr A < (0 : Int64)
          · rw [if_pos n0, if_pos n0]
            exact ⟨_, _, _, _, _, _, _, _, _, _, _, _, _, _, _, _, rfl, rfl, hA, h⟩
          · rw [if_neg n0, if_neg n0]
            rw [Int64.lt_iff_toInt_lt, z] at n0
            have hf : ∀ r, r < 8 → Fit (Xr r) := fun r hr => (hA r hr).2
            obtain ⟨s1, i1, h1, m1, j0, Xb0, Xc0, Xn0, st0, isB0, hand0, nb0, nn0, hj0, k1, k2, k3, k4, k5, k6⟩ := work_begin hB8 hA Xb Xc Xn st isB hand nb nn
            obtain ⟨j, Xb', Xc', Xn', st', isB', hand', nb', nn', d1, d2, d3⟩ := root_run hk hA8 hB8 e1 Xr Xr Mr rfl (hA A hA8).1 hf (by omega) hj0 k4 k5 k6
            obtain ⟨r, Xr', Mb', Mh', Mr', Mc', Mn', f1, f2, f3, f4, f5⟩ := CI_end d3 Xr Mr Mb Mh Mc Mn
            unfold fX1_forget fX3_forget fX7_rootRow
            rw [k1, k2]
            simp only [Option.bind_some, bn2, bn3, bn4, bn5, bn6]
            rw [k3]
            simp only [Option.bind_some]
            rw [e9 (fun w => fX7_rootRow_B15 (nI A) (nI B) (nI (k - 1)) w Xr Xb0 Xc0 Xn0), e9 (fun w => fX9_root_B74 (nI A) (nI B) (nI (k - 1)) w Mb Mh st0 isB0 Mr Mc Mn hand0 nb0 nn0)]
            unfold fX7_rootRow_B15 fX9_root_B74
            rw [d1, d2]
            simp only [Option.bind_some, bn2, bn3, bn4, bn5, bn6]
            rw [f1, f2]
            refine ⟨r, Xr', Xb', Xc', Xn', 0, Mb', Mh', st', isB', Mr', Mc', Mn', hand', nb', nn', rfl, rfl, f3, j + 1, f5, ?_⟩
            exact Or.inl ⟨f4, rfl⟩
      · rw [n4, if_neg n2, if_neg n3]
        exact ⟨_, _, _, _, _, _, _, _, _, _, _, _, _, _, _, _, rfl, rfl, hA, h⟩
    · rw [b1, b2]
      exact ⟨_, _, _, _, _, _, _, _, _, _, _, _, _, _, _, _, rfl, rfl, hA, h⟩
  · rw [a1, a2]
    exact ⟨_, _, _, _, _, _, _, _, _, _, _, _, _, _, _, _, rfl, rfl, hA, h⟩
