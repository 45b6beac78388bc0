/-! ===== part: the run ===== -/
theorem latest_n {j : Nat} {C : Nat → Int64} {A : Nat} (hj : j ≤ 48) (hA : A < 8) : fX7_latest (nI A) (nI (j + 1)) C = some (C (8 * j + A)) := by
  unfold fX7_latest
  rw [steps_n (by omega)]
  simp only [Option.bind_some]
  rw [show j + 1 - 1 = j from rfl, cell_n (by omega)]
  rfl
theorem quot_n {x b : Int64} {X Bn q : Nat} (hx : x.toInt = X) (hb : b.toInt = Bn) (hq : q < 12) (hB : 0 < Bn) (hX : X < 1000000000000) (h10 : X / (10 ^ q * Bn) < 10) : fX7_quotientDigit x b (nI q) = some (nI (X / (10 ^ q * Bn))) := by
  obtain ⟨d1, d2, d3⟩ := part_dig hx hb hq hB hX h10
  have hbz : ¬ b = 0 := fun e => by
    rw [e] at hb
    have z : (0 : Int64).toInt = 0 := rfl
    omega
  unfold fX7_quotientDigit
  rw [tenTo8 q hq]
  simp only [Option.bind_some]
  rw [if_neg (tens_ne q hq), if_neg hbz, d1]
  simp only [Option.bind_some]
  rw [d2]
  simp only [Option.bind_some]
  rw [d3]
theorem part_run {A B C : Nat} (hA : A < 8) (hB : B < 8) (hC : C < 8) (hAB : A ≠ B) (hBC : B ≠ C) (hAC : A ≠ C) (f Xr Mr : Nat → Int64) (hXr : Xr B = f B) (hMr : Mr B = f B) (hf : ∀ r, r < 8 → Fit (f r)) (ha0 : 0 ≤ (f A).toInt) (hb0 : 0 < (f B).toInt) {j0 : Nat} (hj0 : j0 ≤ 1) {Xb Xc Xn st isB hand nb nn} (h : CI j0 Xb Xc Xn st isB hand nb nn) (hz : hand C = 0) (hh : ∀ r, r < 8 → r ≠ C → hand r = f r) : ∃ j Xb' Xc' Xn' st' isB' hand' nb' nn', itr (fX7_partRows_L9 (nI A) (nI B) (nI C) Xr) KF ((11 : Int32), Xb, Xc, Xn) = some (Xb', Xc', Xn') ∧ itr (fX9_part_L79 (nI A) (nI B) (nI C) Mr) KF ((11 : Int32), st, isB, hand, nb, nn) = some (st', isB', hand', nb', nn') ∧ CI j Xb' Xc' Xn' st' isB' hand' nb' nn' := by
  obtain ⟨a, hfa⟩ : ∃ a : Nat, (f A).toInt = a := ⟨(f A).toInt.toNat, by omega⟩
  obtain ⟨b, hfb⟩ : ∃ b : Nat, (f B).toInt = b := ⟨(f B).toInt.toNat, by omega⟩
  have hb1 : 0 < b := by omega
  have ha12 := fit_abs.mp (hf A hA)
  have ha13 : a < 1000000000000 := by omega
  obtain ⟨e, e', h1, h2, h3⟩ := itr_rel (f := fX7_partRows_L9 (nI A) (nI B) (nI C) Xr) (g := fX9_part_L79 (nI A) (nI B) (nI C) Mr)
    (fun m s t => ∃ q j X Y Xb Xc Xn st isB hand nb nn, q ≤ 12 ∧ m = q ∧ j + q ≤ 13 ∧ s = (dn q, Xb, Xc, Xn) ∧ t = (dn q, st, isB, hand, nb, nn) ∧ CI j Xb Xc Xn st isB hand nb nn ∧ (hand A).toInt = (X : Nat) ∧ (hand C).toInt = (Y : Nat) ∧ Y * b + X = a ∧ X < b * 10 ^ q ∧ ∀ r, r < 8 → r ≠ A → r ≠ C → hand r = f r)
    (fun e e' => ∃ j Xb Xc Xn st isB hand nb nn, e = (Xb, Xc, Xn) ∧ e' = (st, isB, hand, nb, nn) ∧ CI j Xb Xc Xn st isB hand nb nn)
    (fun m s t hI => by
      obtain ⟨q, j, X, Y, Xb, Xc, Xn, st, isB, hand, nb, nn, hq, rfl, hj, rfl, rfl, hCI, hvA, hvC, hsum, hlt, hoth⟩ := hI
      show (∃ e e', fX7_partRows_L9b (nI A) (nI B) (nI C) Xr (dn m) Xb Xc Xn = some (.inr e) ∧ fX9_part_L79b (nI A) (nI B) (nI C) Mr (dn m) st isB hand nb nn = some (.inr e') ∧ _) ∨ ∃ k s' t', k < m ∧ fX7_partRows_L9b (nI A) (nI B) (nI C) Xr (dn m) Xb Xc Xn = some (.inl s') ∧ fX9_part_L79b (nI A) (nI B) (nI C) Mr (dn m) st isB hand nb nn = some (.inl t') ∧ _
      rcases m with _ | q
      · left
        unfold fX7_partRows_L9b fX9_part_L79b
        rw [if_pos dn_0, if_pos dn_0]
        exact ⟨_, _, rfl, rfl, j, Xb, Xc, Xn, st, isB, hand, nb, nn, rfl, rfl, hCI⟩
      · right
        have hq12 : q < 12 := by omega
        have hBv : hand B = f B := hoth B hB (fun e => hAB e.symm) hBC
        obtain ⟨D, X', Y', hD, hD10, w1, w2, w3, w4, w5, w6, w7, w8⟩ := part_step hvA hvC hfb hq12 hb1 (by omega) hlt
        have hDlt : X / (10 ^ q * b) < 10 := by rw [← hD]; exact hD10
        obtain ⟨k1, k2, k3⟩ := part_dig hvA hfb hq12 hb1 (by omega) hDlt
        rw [← hD] at k3
        have hq8 := quot_n hvA hfb hq12 hb1 (by omega) hDlt
        rw [← hD] at hq8
        obtain ⟨i48, rfl, rfl, rfl, hc, hn, hok, hlast⟩ := id hCI
        have hlA : fX7_latest (nI A) (nI (j + 1)) Xc = some (hand A) := by rw [latest_n i48 hA, hlast A hA]
        unfold fX7_partRows_L9b fX9_part_L79b
        rw [dn_s, if_neg (nI_not_neg (by omega)), if_neg (nI_not_neg (by omega)), hlA, held_n hB, rdJ_n hA (by decide), ten9 q hq12, rdJ_n hB (by decide), hXr, hMr, rdJ_n hC (by decide)]
        simp only [Option.bind_some]
        rw [hq8, k1]
        simp only [Option.bind_some]
        rw [k2]
        simp only [Option.bind_some]
        rw [k3]
        by_cases c : D = 0
        · subst c
          have hm0 : mI ((0 : Nat) : Int) q = 0 := Int.zero_mul _
          rw [hm0] at w2 w4
          have eX : X' = X := by omega
          have eY : Y' = Y := by omega
          rw [eX] at w7
          exact ⟨q, _, _, by omega, rfl, rfl, q, j, X, Y, nI (j + 1), Xc, Xn, nI j, 0, hand, nb, nn, by omega, rfl, by omega, rfl, rfl, hCI, hvA, hvC, hsum, w7, hoth⟩
        · rw [if_neg (fun e => c ((nI_z (by omega)).mp e)), if_neg (fun e => c ((nI_z (by omega)).mp e)), wrJ_n _ hC (by decide)]
          simp only [Option.bind_some]
          rw [rdJ_n hA (by decide), updL_ne hAC]
          simp only [Option.bind_some]
          rw [wrJ_n _ hA (by decide)]
          simp only [Option.bind_some]
          obtain ⟨hd', hhd⟩ : ∃ hd', hd' = vp_updL (vp_updL hand C (hand C + (nI D).toInt64 * tensF q)) A (hand A - (nI D).toInt64 * tensF q * f B) := ⟨_, rfl⟩
          rw [← hhd]
          have vA : (hd' A).toInt = (X' : Nat) := by rw [hhd, updL_at]; exact w3
          have vC : (hd' C).toInt = (Y' : Nat) := by rw [hhd, updL_ne (fun e => hAC e.symm), updL_at]; exact w1
          have vo : ∀ r, r < 8 → r ≠ A → r ≠ C → hd' r = f r := fun r hr q1 q2 => by rw [hhd, updL_ne q1, updL_ne q2]; exact hoth r hr q1 q2
          have hDi : (nI D).toInt = (D : Int) := nI_toInt (by omega)
          obtain ⟨Xb', Xc', Xn', st', isB', nb', nn', g1, g2, g3⟩ := CI_step 2 (nI A) (nI q) (nI D) (nI B) (nI C) (k := 2) (a := A) (p := q) (d := (D : Int)) (b := B) (c := C) hCI (by omega) (fun N' n0 n1 n2 n3 n4 n5 => ⟨n0, n1, n2, by rw [n3]; exact hDi, hA, by omega, by omega, Or.inr (Or.inr (Or.inr ⟨by omega, by omega, hB, fun e => hAB e.symm, n4, Or.inl ⟨rfl, hC, fun e => hAC e.symm, fun e => hBC e.symm, n5⟩⟩))⟩) hB hd' (fun r hr => by
            have ew : wval 2 A (mI (D : Int) q) B C (fun r => (hand r).toInt) r = if r = C then (hand r).toInt + mI (D : Int) q else if r = A then (hand r).toInt - mI (D : Int) q * (hand B).toInt else (hand r).toInt := rfl
            have eo : wok 2 A (mI (D : Int) q) B (fun r => (hand r).toInt) r := fun _ => ⟨fun _ => by show (mI (D : Int) q * (hand B).toInt).natAbs < 1000000000000; rw [hBv, hfb]; exact w5, fun e => by omega⟩
            rw [ew]
            by_cases e1 : r = C
            · subst e1
              rw [if_pos rfl]
              exact ⟨fit_abs.mpr (by rw [vC]; omega), by rw [vC, hvC]; exact w2, eo⟩
            · rw [if_neg e1]
              by_cases e2 : r = A
              · subst e2
                rw [if_pos rfl]
                exact ⟨fit_abs.mpr (by rw [vA]; omega), by rw [vA, hvA, hBv, hfb]; exact w4, eo⟩
              · rw [if_neg e2, vo r hr e2 e1]
                exact ⟨hf r hr, by rw [hoth r hr e2 e1], eo⟩)
          rw [g1, g2]
          simp only [bn3, bn4, Option.bind_some]
          exact ⟨q, _, _, by omega, rfl, rfl, q, j + 1, X', Y', Xb', Xc', Xn', st', isB', hd', nb', nn', by omega, rfl, by omega, rfl, rfl, g3, vA, vC, by omega, w7, vo⟩) KF 12 ((11 : Int32), Xb, Xc, Xn) ((11 : Int32), st, isB, hand, nb, nn) (KF_lt (by decide)) ⟨12, j0, a, 0, Xb, Xc, Xn, st, isB, hand, nb, nn, by omega, rfl, by omega, by rw [← dn_12], by rw [← dn_12], h, by rw [hh A hA hAC]; exact hfa, by rw [hz]; rfl, by omega, by
        have : 1 * 10 ^ 12 ≤ b * 10 ^ 12 := Nat.mul_le_mul_right _ hb1
        have e12 : (1 : Nat) * 10 ^ 12 = 1000000000000 := rfl
        omega, fun r hr _ q => hh r hr q⟩
  obtain ⟨j, Xb', Xc', Xn', st', isB', hand', nb', nn', rfl, rfl, h3⟩ := h3
  exact ⟨j, Xb', Xc', Xn', st', isB', hand', nb', nn', h1, h2, h3⟩
