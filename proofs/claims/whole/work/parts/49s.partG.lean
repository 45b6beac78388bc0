/-! ===== part: the method ===== -/
theorem G_part (p0 p1 p2 : Int32) {Xr Mr : Nat → Int64} (hA : RA Xr Mr) {Xb Xc Xn Cb Cc Cn Mb Mc Mn Mh My Mg} (h : RC Xb Xc Xn Cb Cc Cn Mb Mc Mn Mh My Mg) (st isB : Int32) (hand nb : Nat → Int64) (nn : Nat → Int32) : ∃ (r : Int32) (o0 : Nat → Int64) (o1 : Int32) (o2 : Nat → Int64) (o3 : Nat → Int32) (o4 q0 q1 q2 q3 : Int32) (q4 q5 : Nat → Int64) (q6 : Nat → Int32) (q7 q8 : Nat → Int64) (q9 : Nat → Int32), fX8_part p0 p1 p2 Xr Xb Xc Xn Cb = some (r, o0, o1, o2, o3, o4) ∧ fX9_part p0 p1 p2 Mb Mh st isB Mr Mc Mn hand nb nn = some (r, q0, q1, q2, q3, q4, q5, q6, q7, q8, q9) ∧ RA o0 q4 ∧ RC o1 o2 o3 o4 Cc Cn q0 q5 q6 q1 My Mg := by
  have z : (0 : Int64).toInt = 0 := rfl
  unfold fX8_part fX9_part
  rcases row_cases p0 with ⟨A, hA8, rfl, a1, a2⟩ | ⟨a1, a2⟩
  · rw [a1, a2]
    simp only [Option.bind_some, i10]
    rcases row_cases p1 with ⟨B, hB8, rfl, b1, b2⟩ | ⟨b1, b2⟩
    · rw [b1, b2]
      simp only [Option.bind_some, i10]
      rcases row_cases p2 with ⟨C, hC8, rfl, c1, c2⟩ | ⟨c1, c2⟩
      · rw [c1, c2]
        simp only [Option.bind_some, i10]
        by_cases e1 : A = B
        · rw [if_pos (by rw [e1]), if_pos (by rw [e1])]
          exact ⟨_, _, _, _, _, _, _, _, _, _, _, _, _, _, _, _, rfl, rfl, hA, h⟩
        · rw [if_neg (nI_ne e1 (by omega) (by omega)), if_neg (nI_ne e1 (by omega) (by omega))]
          by_cases e2 : A = C
          · rw [if_pos (show nI A = nI C by rw [e2])]
            by_cases e3 : B = C
            · exact absurd (e2.trans e3.symm) e1
            · rw [if_neg (nI_ne e3 (by omega) (by omega)), if_pos (show nI A = nI C by rw [e2])]
              exact ⟨_, _, _, _, _, _, _, _, _, _, _, _, _, _, _, _, rfl, rfl, hA, h⟩
          · rw [if_neg (nI_ne e2 (by omega) (by omega))]
            by_cases e3 : B = C
            · rw [if_pos (show nI B = nI C by rw [e3]), if_pos (show nI B = nI C by rw [e3])]
              exact ⟨_, _, _, _, _, _, _, _, _, _, _, _, _, _, _, _, rfl, rfl, hA, h⟩
            · rw [if_neg (nI_ne e3 (by omega) (by omega)), if_neg (nI_ne e3 (by omega) (by omega)), if_neg (nI_ne e2 (by omega) (by omega)), held_n hA8, held_n hB8, rdJ_n hA8 (by decide), rdJ_n hB8 (by decide), (hA A hA8).1, (hA B hB8).1]
              simp only [Option.bind_some]
              by_cases n0 : Xr A < (0 : Int64)
              · rw [if_pos n0, if_pos n0]
                exact ⟨_, _, _, _, _, _, _, _, _, _, _, _, _, _, _, _, rfl, rfl, hA, h⟩
              · rw [if_neg n0, if_neg n0]
                by_cases n1 : (0 : Int64) < Xr B
                · rw [if_pos n1, if_pos n1]
                  rw [Int64.lt_iff_toInt_lt, z] at n0 n1
                  have hf : ∀ r, r < 8 → Fit (Xr r) := fun r hr => (hA r hr).2
                  obtain ⟨s1, i1, h1, m1, j0, Xb0, Xc0, Xn0, st0, isB0, hand0, nb0, nn0, hj0, k1, k2, k3, k4, k5, k6⟩ := work_begin hC8 hA Xb Xc Xn st isB hand nb nn
                  obtain ⟨j, Xb', Xc', Xn', st', isB', hand', nb', nn', d1, d2, d3⟩ := part_run hA8 hB8 hC8 e1 e3 e2 Xr Xr Mr rfl (hA B hB8).1 hf (by omega) n1 hj0 k4 k5 k6
                  obtain ⟨r, Xr', Mb', Mh', Mr', Mc', Mn', f1, f2, f3, f4, f5⟩ := CI_end d3 Xr Mr Mb Mh Mc Mn
                  unfold fX1_forget fX3_forget fX7_partRows
                  rw [k1, k2]
                  simp only [Option.bind_some, bn2, bn3, bn4, bn5, bn6]
                  rw [k3]
                  simp only [Option.bind_some]
                  rw [d1, d2]
                  simp only [Option.bind_some]
                  rw [f1, f2]
                  refine ⟨r, Xr', Xb', Xc', Xn', 0, Mb', Mh', st', isB', Mr', Mc', Mn', hand', nb', nn', rfl, rfl, f3, j + 1, f5, ?_⟩
                  exact Or.inl ⟨f4, rfl⟩
                · rw [if_neg n1, if_neg n1]
                  exact ⟨_, _, _, _, _, _, _, _, _, _, _, _, _, _, _, _, rfl, rfl, hA, h⟩
      · rw [c1, c2]
        exact ⟨_, _, _, _, _, _, _, _, _, _, _, _, _, _, _, _, rfl, rfl, hA, h⟩
    · rw [b1, b2]
      exact ⟨_, _, _, _, _, _, _, _, _, _, _, _, _, _, _, _, rfl, rfl, hA, h⟩
  · rw [a1, a2]
    exact ⟨_, _, _, _, _, _, _, _, _, _, _, _, _, _, _, _, rfl, rfl, hA, h⟩
