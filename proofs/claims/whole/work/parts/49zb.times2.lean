/-! ===== times: both ways, the inner loop ===== -/
theorem times_in {A B C p N K T : Nat} (hA : A < 8) (hB : B < 8) (hC : C < 8) (hp : p < 12) {x y : Int64} (hx : Fit x) (hy : Fit y) (hxy : x.toInt.natAbs * y.toInt.natAbs < 1000000000000) {Lf S : Int32} (hS : Lf = 0 ∧ S = 1 ∨ Lf = 1 ∧ S = -1) (f Xr Mr : Nat → Int64) (hXA : Xr A = x) (hXB : Xr B = y) (hMA : Mr A = x) (hMB : Mr B = y) (hf : ∀ r, r < 8 → Fit (f r)) (hM : dgt x p ≠ 0 → T = N) (hN : ∀ q, q < 12 → dgt y q ≠ 0 → q < N) (hKT : K + T ≤ 48) {j0 : Nat} {Xb Xc Xn st isB hand nb nn} (h : CI j0 Xb Xc Xn st isB hand nb nn) (hj0 : j0 ≤ K) (hv : (hand C).toInt = S.toInt * (tv x y p 12 : Nat)) (hh : ∀ r, r < 8 → r ≠ C → hand r = f r) : ∃ j Xb' Xc' Xn' st' isB' hand' nb' nn', itr (fX7_multiplyRows_L58 (nI A) (nI B) (nI C) Lf (nI p) Xr) KF ((11 : Int32), Xb, Xc, Xn) = some (Xb', Xc', Xn') ∧ itr (fX9_times_L112 (nI A) (nI B) (nI C) S (nI p) Mr) KF ((11 : Int32), st, isB, hand, nb, nn) = some (st', isB', hand', nb', nn') ∧ CI j Xb' Xc' Xn' st' isB' hand' nb' nn' ∧ j ≤ K + T ∧ (hand' C).toInt = S.toInt * (tv x y p 0 : Nat) ∧ ∀ r, r < 8 → r ≠ C → hand' r = f r := by
  have hS1 : S = 1 ∨ S = -1 := by
    rcases hS with ⟨-, e⟩ | ⟨-, e⟩
    · exact Or.inl e
    · exact Or.inr e
  have hSi := S_toInt hS1
  obtain ⟨e, e', h1, h2, h3⟩ := itr_rel (f := fX7_multiplyRows_L58 (nI A) (nI B) (nI C) Lf (nI p) Xr) (g := fX9_times_L112 (nI A) (nI B) (nI C) S (nI p) Mr)
    (fun m s t => ∃ q j Xb Xc Xn st isB hand nb nn, q ≤ 12 ∧ m = q ∧ j ≤ K + (T - q) ∧ s = (dn q, Xb, Xc, Xn) ∧ t = (dn q, st, isB, hand, nb, nn) ∧ CI j Xb Xc Xn st isB hand nb nn ∧ (hand C).toInt = S.toInt * (tv x y p q : Nat) ∧ ∀ r, r < 8 → r ≠ C → hand r = f r)
    (fun e e' => ∃ j Xb Xc Xn st isB hand nb nn, e = (Xb, Xc, Xn) ∧ e' = (st, isB, hand, nb, nn) ∧ CI j Xb Xc Xn st isB hand nb nn ∧ j ≤ K + T ∧ (hand C).toInt = S.toInt * (tv x y p 0 : Nat) ∧ ∀ r, r < 8 → r ≠ C → hand r = f r)
    (fun m s t hI => by
      obtain ⟨q, j, Xb, Xc, Xn, st, isB, hand, nb, nn, hq, rfl, hj, rfl, rfl, hCI, hval, hoth⟩ := hI
      show (∃ e e', fX7_multiplyRows_L58b (nI A) (nI B) (nI C) Lf (nI p) Xr (dn m) Xb Xc Xn = some (.inr e) ∧ fX9_times_L112b (nI A) (nI B) (nI C) S (nI p) Mr (dn m) st isB hand nb nn = some (.inr e') ∧ _) ∨ ∃ k s' t', k < m ∧ fX7_multiplyRows_L58b (nI A) (nI B) (nI C) Lf (nI p) Xr (dn m) Xb Xc Xn = some (.inl s') ∧ fX9_times_L112b (nI A) (nI B) (nI C) S (nI p) Mr (dn m) st isB hand nb nn = some (.inl t') ∧ _
      rcases m with _ | q
      · left
        unfold fX7_multiplyRows_L58b fX9_times_L112b
        rw [if_pos dn_0, if_pos dn_0]
        exact ⟨_, _, rfl, rfl, j, Xb, Xc, Xn, st, isB, hand, nb, nn, rfl, rfl, hCI, by omega, hval, hoth⟩
      · right
        have hq12 : q < 12 := by omega
        have hB0 : isB = 0 := hCI.2.2.2.1
        subst hB0
        have g1 := dgt_lt x p
        have g2 := dgt_lt y q
        have g3 : dgt x p * dgt y q ≤ 9 * 9 := Nat.mul_le_mul (by omega) (by omega)
        have hts := tv_step x y p q
        have htl := tv_le x y p q
        rw [dn_s, mul8_body hA hB hp hq12 hx hy hXA hXB hS, mul9_body hA hB hC hp hq12 hx hy hMA hMB]
        by_cases c : dgt x p * dgt y q = 0
        · rw [if_pos c, if_pos c]
          have hs : tv x y p q = tv x y p (q + 1) := by rw [hts, c, Nat.zero_mul, Nat.add_zero]
          exact ⟨q, _, _, by omega, rfl, rfl, q, j, Xb, Xc, Xn, st, 0, hand, nb, nn, by omega, rfl, by omega, rfl, rfl, hCI, by rw [hval, hs], hoth⟩
        · have hpq := pq_lt c hxy
          have hdx : dgt x p ≠ 0 := fun e => c (by rw [e, Nat.zero_mul])
          have hdy : dgt y q ≠ 0 := fun e => c (by rw [e, Nat.mul_zero])
          have hTN := hM hdx
          have hqN := hN q hq12 hdy
          rw [if_neg c, if_neg c, if_neg (show ¬ 11 < p + q by omega)]
          obtain ⟨d, hd⟩ : ∃ d, d = dgt x p * dgt y q := ⟨_, rfl⟩
          rw [← hd] at g3 hts c ⊢
          obtain ⟨w1, w2⟩ := tmul_val hS1 g3 hpq hval hts (by omega)
          obtain ⟨hd', hhd⟩ : ∃ hd', hd' = vp_updL hand C (hand C + (S * nI d).toInt64 * tensF (p + q)) := ⟨_, rfl⟩
          rw [← hhd]
          have vC : (hd' C).toInt = S.toInt * (tv x y p q : Nat) := by rw [hhd, updL_at]; exact w1
          have vo : ∀ r, r < 8 → r ≠ C → hd' r = hand r := fun r hr hrC => by rw [hhd, updL_ne hrC]
          have hdi := Sd_toInt hS1 g3
          have hin : (S.toInt * (tv x y p q : Nat)).natAbs < 1000000000000 := by
            rcases hSi with s | s <;> rw [s] <;> omega
          obtain ⟨Xb', Xc', Xn', st', isB', nb', nn', g4, g5, g6⟩ := CI_step 1 (nI C) (nI (p + q)) (S * nI d) (-6) (-6) (k := 1) (a := C) (p := p + q) (d := S.toInt * (d : Int)) (b := 0) (c := 0) hCI (by omega) (fun N' n0 n1 n2 n3 n4 n5 => ⟨n0, n1, n2, by rw [n3]; exact hdi, hC, hpq, by rcases hSi with s | s <;> rw [s] <;> omega, Or.inr (Or.inl rfl)⟩) (by decide) hd' (fun r hr => by
            have ew : wval 1 C (mI (S.toInt * (d : Int)) (p + q)) 0 0 (fun r => (hand r).toInt) r = if r = C then (hand r).toInt + mI (S.toInt * (d : Int)) (p + q) else (hand r).toInt := rfl
            rw [ew]
            by_cases e : r = C
            · subst e
              rw [if_pos rfl]
              exact ⟨fit_abs.mpr (by rw [vC]; exact hin), by rw [vC, w2], wok_of (Or.inr (Or.inr (Or.inl rfl)))⟩
            · rw [if_neg e, vo r hr e]
              exact ⟨by rw [hoth r hr e]; exact hf r hr, rfl, wok_of (Or.inl e)⟩)
          rw [g4, g5]
          simp only [bn3, bn4, Option.bind_some]
          exact ⟨q, _, _, by omega, rfl, rfl, q, j + 1, Xb', Xc', Xn', st', isB', hd', nb', nn', by omega, rfl, by omega, rfl, rfl, g6, vC, fun r hr e => by rw [vo r hr e]; exact hoth r hr e⟩) KF 12 ((11 : Int32), Xb, Xc, Xn) ((11 : Int32), st, isB, hand, nb, nn) (KF_lt (by decide)) ⟨12, j0, Xb, Xc, Xn, st, isB, hand, nb, nn, by omega, rfl, by omega, by rw [← dn_12], by rw [← dn_12], h, hv, hh⟩
  obtain ⟨j, Xb', Xc', Xn', st', isB', hand', nb', nn', rfl, rfl, h3⟩ := h3
  exact ⟨j, Xb', Xc', Xn', st', isB', hand', nb', nn', h1, h2, h3⟩
/-! ===== times: both ways, the outer loop ===== -/
theorem times_run {A B C : Nat} (hA : A < 8) (hB : B < 8) (hC : C < 8) {x y : Int64} (hx : Fit x) (hy : Fit y) (hxy : x.toInt.natAbs * y.toInt.natAbs < 1000000000000) {Lf S : Int32} (hS : Lf = 0 ∧ S = 1 ∨ Lf = 1 ∧ S = -1) (f Xr Mr : Nat → Int64) (hXA : Xr A = x) (hXB : Xr B = y) (hMA : Mr A = x) (hMB : Mr B = y) (hf : ∀ r, r < 8 → Fit (f r)) {j0 : Nat} (hj0 : j0 ≤ 1) {Xb Xc Xn st isB hand nb nn} (h : CI j0 Xb Xc Xn st isB hand nb nn) (hz : hand C = 0) (hh : ∀ r, r < 8 → r ≠ C → hand r = f r) : ∃ j Xb' Xc' Xn' st' isB' hand' nb' nn', itr (fX7_multiplyRows_L49 (nI A) (nI B) (nI C) Lf Xr) KF ((11 : Int32), Xb, Xc, Xn) = some (Xb', Xc', Xn') ∧ itr (fX9_times_L96 (nI A) (nI B) (nI C) S Mr) KF ((11 : Int32), st, isB, hand, nb, nn) = some (st', isB', hand', nb', nn') ∧ CI j Xb' Xc' Xn' st' isB' hand' nb' nn' := by
  obtain ⟨M, hM12, hMd, hMt⟩ := top_n x 12
  obtain ⟨N, hN12, hNd, hNt⟩ := top_n y 12
  have h42 := mn_le hxy hM12 hN12 hMt hNt
  obtain ⟨e, e', h1, h2, h3⟩ := itr_rel (f := fX7_multiplyRows_L49 (nI A) (nI B) (nI C) Lf Xr) (g := fX9_times_L96 (nI A) (nI B) (nI C) S Mr)
    (fun m s t => ∃ p j Xb Xc Xn st isB hand nb nn, p ≤ 12 ∧ m = p ∧ j ≤ 1 + (M - p) * N ∧ s = (dn p, Xb, Xc, Xn) ∧ t = (dn p, st, isB, hand, nb, nn) ∧ CI j Xb Xc Xn st isB hand nb nn ∧ (hand C).toInt = S.toInt * ((hiv x p * y.toInt.natAbs : Nat) : Int) ∧ ∀ r, r < 8 → r ≠ C → hand r = f r)
    (fun e e' => ∃ j Xb Xc Xn st isB hand nb nn, e = (Xb, Xc, Xn) ∧ e' = (st, isB, hand, nb, nn) ∧ CI j Xb Xc Xn st isB hand nb nn)
    (fun m s t hI => by
      obtain ⟨p, j, Xb, Xc, Xn, st, isB, hand, nb, nn, hp, rfl, hj, rfl, rfl, hCI, hval, hoth⟩ := hI
      show (∃ e e', fX7_multiplyRows_L49b (nI A) (nI B) (nI C) Lf Xr (dn m) Xb Xc Xn = some (.inr e) ∧ fX9_times_L96b (nI A) (nI B) (nI C) S Mr (dn m) st isB hand nb nn = some (.inr e') ∧ _) ∨ ∃ k s' t', k < m ∧ fX7_multiplyRows_L49b (nI A) (nI B) (nI C) Lf Xr (dn m) Xb Xc Xn = some (.inl s') ∧ fX9_times_L96b (nI A) (nI B) (nI C) S Mr (dn m) st isB hand nb nn = some (.inl t') ∧ _
      rcases m with _ | p
      · left
        unfold fX7_multiplyRows_L49b fX9_times_L96b
        rw [if_pos dn_0, if_pos dn_0]
        exact ⟨_, _, rfl, rfl, j, Xb, Xc, Xn, st, isB, hand, nb, nn, rfl, rfl, hCI⟩
      · right
        have hp12 : p < 12 := by omega
        have hB0 : isB = 0 := hCI.2.2.2.1
        subst hB0
        -- how many steps this high place may take
        obtain ⟨T, hT1, hT2⟩ : ∃ T, (dgt x p ≠ 0 → T = N) ∧ (M - (p + 1)) * N + T ≤ (M - p) * N := by
          by_cases c : dgt x p = 0
          · exact ⟨0, fun e => absurd c e, Nat.mul_le_mul_right _ (by omega)⟩
          · have hpM := hMd p hp12 c
            refine ⟨N, fun _ => rfl, ?_⟩
            have e : M - p = M - (p + 1) + 1 := by omega
            rw [e, Nat.add_mul, Nat.one_mul]
            exact Nat.le_refl _
        have hMN : (M - p) * N ≤ M * N := Nat.mul_le_mul_right _ (by omega)
        obtain ⟨j', Xb', Xc', Xn', st', isB', hand', nb', nn', r1, r2, r3, r4, r5, r6⟩ := times_in (K := 1 + (M - (p + 1)) * N) (T := T) hA hB hC hp12 hx hy hxy hS f Xr Mr hXA hXB hMA hMB hf hT1 hNd (by omega) hCI hj (by rw [tv_12 hy]; exact hval) hoth
        unfold fX7_multiplyRows_L49b fX9_times_L96b
        rw [dn_s, if_neg (nI_not_neg (by omega)), if_neg (nI_not_neg (by omega)), if_pos rfl, r1, r2]
        simp only [bn3, bn5, Option.bind_some]
        exact ⟨p, _, _, by omega, rfl, rfl, p, j', Xb', Xc', Xn', st', isB', hand', nb', nn', by omega, rfl, by omega, rfl, rfl, r3, by rw [r5, tv_0], r6⟩) KF 12 ((11 : Int32), Xb, Xc, Xn) ((11 : Int32), st, isB, hand, nb, nn) (KF_lt (by decide)) ⟨12, j0, Xb, Xc, Xn, st, isB, hand, nb, nn, by omega, rfl, by omega, by rw [← dn_12], by rw [← dn_12], h, by
        have z0 : (0 : Int64).toInt = 0 := rfl
        rw [hz, hiv_12 hx, Nat.zero_mul, z0]
        exact (Int.mul_zero _).symm, hh⟩
  obtain ⟨j, Xb', Xc', Xn', st', isB', hand', nb', nn', rfl, rfl, h3⟩ := h3
  exact ⟨j, Xb', Xc', Xn', st', isB', hand', nb', nn', h1, h2, h3⟩
