/-! ===== add: the method ===== -/
theorem G_add (p0 p1 : Int32) {Xr Mr : Nat → Int64} (hA : RA Xr Mr) {Xb Xc Xn Cb Cc Cn Mb Mc Mn Mh My Mg} (h : RC Xb Xc Xn Cb Cc Cn Mb Mc Mn Mh My Mg) (st isB : Int32) (hand nb : Nat → Int64) (nn : Nat → Int32) : ∃ (r : Int32) (o0 : Nat → Int64) (o1 : Int32) (o2 : Nat → Int64) (o3 : Nat → Int32) (o4 q0 q1 q2 q3 : Int32) (q4 q5 : Nat → Int64) (q6 : Nat → Int32) (q7 q8 : Nat → Int64) (q9 : Nat → Int32), fX8_add p0 p1 Xr Xb Xc Xn Cb = some (r, o0, o1, o2, o3, o4) ∧ fX9_add p0 p1 Mb Mh st isB Mr Mc Mn hand nb nn = some (r, q0, q1, q2, q3, q4, q5, q6, q7, q8, q9) ∧ RA o0 q4 ∧ RC o1 o2 o3 o4 Cc Cn q0 q5 q6 q1 My Mg := by
  unfold fX8_add fX9_add
  rcases row_cases p0 with ⟨A, hA8, rfl, a1, a2⟩ | ⟨a1, a2⟩
  · rw [a1, a2]
    simp only [Option.bind_some, i10]
    rcases row_cases p1 with ⟨B, hB8, rfl, b1, b2⟩ | ⟨b1, b2⟩
    · rw [b1, b2]
      simp only [Option.bind_some, i10]
      rw [held_n hA8, held_n hB8, rdJ_n hB8 (by decide), (hA B hB8).1]
      simp only [Option.bind_some]
      obtain ⟨Xb0, Xc0, st0, isB0, hand0, nb0, c1, c2, c3, c4⟩ := CI_begin hA Xb Xc Xn st isB hand nb nn
      have hf : ∀ r, r < 8 → Fit (Xr r) := fun r hr => (hA r hr).2
      rw [c2]
      simp only [bn4, Option.bind_some]
      by_cases hok : Fit (Xr A + Xr B)
      · rw [isBeyond_f hok]
        obtain ⟨j, Xb', Xc', Xn', st', isB', hand', nb', nn', d1, d2, d3⟩ := add_run (B := B) hA8 (hf B hB8) Xr hf hok c3 c4
        obtain ⟨r, Xr', Mb', Mh', Mr', Mc', Mn', e1, e2, e3, e4, e5⟩ := CI_end d3 Xr Mr Mb Mh Mc Mn
        unfold fX1_forget fX3_forget fX7_addRows
        rw [c1, held_n hB8]
        simp only [Option.bind_some, if_true, bn2, bn3, bn5, bn6]
        rw [d1, d2]
        simp only [Option.bind_some]
        rw [e1, e2]
        refine ⟨r, Xr', Xb', Xc', Xn', 0, Mb', Mh', st', isB', Mr', Mc', Mn', hand', nb', nn', rfl, rfl, e3, j + 1, e5, ?_⟩
        exact Or.inl ⟨e4, rfl⟩
      · rw [isBeyond_n hok]
        obtain ⟨h48, -, rfl, rfl, -, -, -, -⟩ := c3
        obtain ⟨st', hand', nb', nn', d1⟩ := add9_run hA8 (nI B) (hf B hB8) Xr hf hok hand0 nb0 nn c4
        have d1' : itr (fX9_add_L31 (nI A) (nI B) (Xr B)) KF ((11 : Int32), nI 0, (0 : Int32), hand0, nb0, nn) = some (st', 1, hand', nb', nn') := d1
        rw [d1']
        simp only [Option.bind_some, i10, bn5]
        unfold fX9_endWork
        rw [i10]
        exact ⟨_, _, _, _, _, _, _, _, _, _, _, _, _, _, _, _, rfl, rfl, hA, h⟩
    · rw [b1, b2]
      exact ⟨_, _, _, _, _, _, _, _, _, _, _, _, _, _, _, _, rfl, rfl, hA, h⟩
  · rw [a1, a2]
    exact ⟨_, _, _, _, _, _, _, _, _, _, _, _, _, _, _, _, rfl, rfl, hA, h⟩
