/-! ===== times: the method ===== -/
theorem times_sign {A B : Nat} (C : Int32) (hB : B < 8) {Xr Mr : Nat → Int64} {x y : Int64} (hXB : Xr B = y) (hMB : Mr B = y) : ∃ Lf S : Int32, (Lf = 0 ∧ S = 1 ∨ Lf = 1 ∧ S = -1) ∧ (∀ Xb Xc Xn, (if x < (0 : Int64) then fX7_multiplyRows_B20 (nI A) (nI B) C (1 : Int32) Xr Xb Xc Xn else fX7_multiplyRows_B20 (nI A) (nI B) C (0 : Int32) Xr Xb Xc Xn) = fX7_multiplyRows_B43 (nI A) (nI B) C Lf Xr Xb Xc Xn) ∧ ∀ Mb Mh st isB Mc Mn hand nb nn, (if x < (0 : Int64) then fX9_times_B66 (nI A) (nI B) C (1 : Int32) Mb Mh st isB Mr Mc Mn hand nb nn else fX9_times_B66 (nI A) (nI B) C (0 : Int32) Mb Mh st isB Mr Mc Mn hand nb nn) = fX9_times_B90 (nI A) (nI B) C S Mb Mh st isB Mr Mc Mn hand nb nn := by
  unfold fX7_multiplyRows_B20 fX7_multiplyRows_B35 fX9_times_B66 fX9_times_B82
  rw [held_n hB, hXB, rdJ_n hB (by decide), hMB]
  by_cases cx : x < (0 : Int64)
  · by_cases cy : y < (0 : Int64)
    · refine ⟨0, 1, Or.inl ⟨rfl, rfl⟩, fun Xb Xc Xn => ?_, fun Mb Mh st isB Mc Mn hand nb nn => ?_⟩
      · rw [if_pos cx, Option.bind_some, if_pos cy, if_pos rfl]
      · rw [if_pos cx, Option.bind_some, if_pos cy, if_pos rfl]
    · refine ⟨1, -1, Or.inr ⟨rfl, rfl⟩, fun Xb Xc Xn => ?_, fun Mb Mh st isB Mc Mn hand nb nn => ?_⟩
      · rw [if_pos cx, Option.bind_some, if_neg cy, if_neg (by decide)]
      · rw [if_pos cx, Option.bind_some, if_neg cy, if_neg (by decide)]
  · by_cases cy : y < (0 : Int64)
    · refine ⟨1, -1, Or.inr ⟨rfl, rfl⟩, fun Xb Xc Xn => ?_, fun Mb Mh st isB Mc Mn hand nb nn => ?_⟩
      · rw [if_neg cx, Option.bind_some, if_pos cy, if_neg (by decide)]
      · rw [if_neg cx, Option.bind_some, if_pos cy, if_neg (by decide)]
    · refine ⟨0, 1, Or.inl ⟨rfl, rfl⟩, fun Xb Xc Xn => ?_, fun Mb Mh st isB Mc Mn hand nb nn => ?_⟩
      · rw [if_neg cx, Option.bind_some, if_neg cy, if_pos rfl]
      · rw [if_neg cx, Option.bind_some, if_neg cy, if_pos rfl]
theorem G_times (p0 p1 p2 : Int32) {Xr Mr : Nat → Int64} (hA : RA Xr Mr) {Xb Xc Xn Cb Cc Cn Mb Mc Mn Mh My Mg} (h : RC Xb Xc Xn Cb Cc Cn Mb Mc Mn Mh My Mg) (st isB : Int32) (hand nb : Nat → Int64) (nn : Nat → Int32) : ∃ (r : Int32) (o0 : Nat → Int64) (o1 : Int32) (o2 : Nat → Int64) (o3 : Nat → Int32) (o4 q0 q1 q2 q3 : Int32) (q4 q5 : Nat → Int64) (q6 : Nat → Int32) (q7 q8 : Nat → Int64) (q9 : Nat → Int32), fX8_times p0 p1 p2 Xr Xb Xc Xn Cb = some (r, o0, o1, o2, o3, o4) ∧ fX9_times p0 p1 p2 Mb Mh st isB Mr Mc Mn hand nb nn = some (r, q0, q1, q2, q3, q4, q5, q6, q7, q8, q9) ∧ RA o0 q4 ∧ RC o1 o2 o3 o4 Cc Cn q0 q5 q6 q1 My Mg := by
  unfold fX8_times fX9_times
  rcases row_cases p0 with ⟨A, hA8, rfl, a1, a2⟩ | ⟨a1, a2⟩
  · rw [a1, a2]
    simp only [Option.bind_some, i10]
    rcases row_cases p1 with ⟨B, hB8, rfl, b1, b2⟩ | ⟨b1, b2⟩
    · rw [b1, b2]
      simp only [Option.bind_some, i10]
      rcases row_cases p2 with ⟨C, hC8, rfl, c1, c2⟩ | ⟨c1, c2⟩
      · rw [c1, c2]
        simp only [Option.bind_some, i10]
        by_cases e1 : A = B
        · rw [if_pos (by rw [e1]), if_pos (by rw [e1])]
          exact ⟨_, _, _, _, _, _, _, _, _, _, _, _, _, _, _, _, rfl, rfl, hA, h⟩
        · rw [if_neg (nI_ne e1 (by omega) (by omega)), if_neg (nI_ne e1 (by omega) (by omega))]
          by_cases e2 : A = C
          · rw [if_pos (show nI A = nI C by rw [e2])]
            by_cases e3 : B = C
            · exact absurd (e2.trans e3.symm) e1
            · rw [if_neg (nI_ne e3 (by omega) (by omega)), if_pos (show nI A = nI C by rw [e2])]
              exact ⟨_, _, _, _, _, _, _, _, _, _, _, _, _, _, _, _, rfl, rfl, hA, h⟩
          · rw [if_neg (nI_ne e2 (by omega) (by omega))]
            by_cases e3 : B = C
            · rw [if_pos (show nI B = nI C by rw [e3]), if_pos (show nI B = nI C by rw [e3])]
              exact ⟨_, _, _, _, _, _, _, _, _, _, _, _, _, _, _, _, rfl, rfl, hA, h⟩
            · rw [if_neg (nI_ne e3 (by omega) (by omega)), if_neg (nI_ne e3 (by omega) (by omega)), if_neg (nI_ne e2 (by omega) (by omega)), held_n hA8, held_n hB8, rdJ_n hA8 (by decide), (hA A hA8).1]
              simp only [Option.bind_some]
              have hf : ∀ r, r < 8 → Fit (Xr r) := fun r hr => (hA r hr).2
              have hfA := fit_abs.mp (hf A hA8)
              obtain ⟨z, hz, hz2⟩ := product_ok (x := Xr A) (y := Xr B) (by omega) (hf B hB8)
              rw [Int.natAbs_mul] at hz2
              obtain ⟨s1, i1, h1, m1, j0, Xb0, Xc0, Xn0, st0, isB0, hand0, nb0, nn0, hj0, k1, k2, k3, k4, k5, k6⟩ := work_begin hC8 hA Xb Xc Xn st isB hand nb nn
              obtain ⟨Lf, S, hS, s8, s9⟩ := times_sign (A := A) (x := Xr A) (nI C) hB8 (Xr := Xr) (Mr := Mr) rfl (hA B hB8).1
              rw [hz, k2]
              simp only [Option.bind_some, bn4]
              rw [k3]
              simp only [Option.bind_some, bn5]
              rw [s9]
              unfold fX9_times_B90
              rcases hz2 with ⟨q1, q2⟩ | ⟨q1, q2⟩
              · have hzl : ¬ z = (-1000000000000000 : Int64) := fun e => by
                  have hl : (-1000000000000000 : Int64).toInt = -1000000000000000 := by decide +kernel
                  rw [e, hl] at q2
                  have hab := Int.natAbs_mul (Xr A).toInt (Xr B).toInt
                  omega
                rw [if_neg hzl]
                obtain ⟨j, Xb', Xc', Xn', st', isB', hand', nb', nn', d1, d2, d3⟩ := times_run hA8 hB8 hC8 (hf A hA8) (hf B hB8) q1 hS Xr Xr Mr rfl rfl (hA A hA8).1 (hA B hB8).1 hf hj0 k4 k5 k6
                obtain ⟨r, Xr', Mb', Mh', Mr', Mc', Mn', f1, f2, f3, f4, f5⟩ := CI_end d3 Xr Mr Mb Mh Mc Mn
                unfold fX1_forget fX3_forget fX7_multiplyRows
                rw [k1]
                simp only [Option.bind_some, bn2, bn3, bn4, bn5, bn6]
                rw [held_n hA8]
                simp only [Option.bind_some]
                rw [s8]
                unfold fX7_multiplyRows_B43
                rw [d1, d2]
                simp only [Option.bind_some, bn2, bn3, bn4, bn5, bn6]
                rw [f1, f2]
                refine ⟨r, Xr', Xb', Xc', Xn', 0, Mb', Mh', st', isB', Mr', Mc', Mn', hand', nb', nn', rfl, rfl, f3, j + 1, f5, ?_⟩
                exact Or.inl ⟨f4, rfl⟩
              · rw [if_pos q2]
                obtain ⟨-, -, rfl, rfl, -, -, -, -⟩ := k4
                have hS1 : S = 1 ∨ S = -1 := by
                  rcases hS with ⟨-, e⟩ | ⟨-, e⟩
                  · exact Or.inl e
                  · exact Or.inr e
                obtain ⟨st', hand', nb', nn', d1⟩ := times9_run hA8 hB8 hC8 (hf A hA8) (hf B hB8) q1 hS1 Mr (hA A hA8).1 (hA B hB8).1 hand0 nb0 nn0 hj0 k5 (fun r hr e => by rw [k6 r hr e]; exact hf r hr)
                rw [d1]
                simp only [Option.bind_some, bn5]
                unfold fX9_endWork
                rw [i10]
                exact ⟨_, _, _, _, _, _, _, _, _, _, _, _, _, _, _, _, rfl, rfl, hA, h⟩
      · rw [c1, c2]
        exact ⟨_, _, _, _, _, _, _, _, _, _, _, _, _, _, _, _, rfl, rfl, hA, h⟩
    · rw [b1, b2]
      exact ⟨_, _, _, _, _, _, _, _, _, _, _, _, _, _, _, _, rfl, rfl, hA, h⟩
  · rw [a1, a2]
    exact ⟨_, _, _, _, _, _, _, _, _, _, _, _, _, _, _, _, rfl, rfl, hA, h⟩
