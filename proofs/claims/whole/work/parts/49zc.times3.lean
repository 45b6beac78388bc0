/-! ===== times: the reference alone, beyond ===== -/
theorem beyond_nf : ¬ Fit (1000000000000 : Int64) := by
  have e : (1000000000000 : Int64).toInt = 1000000000000 := by decide +kernel
  unfold Fit
  rw [e]
  omega
theorem times9_in {A B C p J : Nat} (hA : A < 8) (hB : B < 8) (hC : C < 8) (hp : p < 12) {x y : Int64} (hx : Fit x) (hy : Fit y) {S : Int32} (hS1 : S = 1 ∨ S = -1) (Mr : Nat → Int64) (hMA : Mr A = x) (hMB : Mr B = y) (hJ : J ≤ 133) (isB : Int32) (hB1 : isB = 0 ∨ isB = 1) (hand nb : Nat → Int64) (nn : Nat → Int32) {j0 : Nat} (hj0 : j0 ≤ J) (hv : isB = 0 → (hand C).toInt = S.toInt * (tv x y p 12 : Nat) ∧ tv x y p 12 < 1000000000000) (hh : ∀ r, r < 8 → r ≠ C → Fit (hand r)) : ∃ j isB' hand' nb' nn', itr (fX9_times_L112 (nI A) (nI B) (nI C) S (nI p) Mr) KF ((11 : Int32), nI j0, isB, hand, nb, nn) = some (nI j, isB', hand', nb', nn') ∧ j ≤ J + 12 ∧ (isB' = 0 ∨ isB' = 1) ∧ (isB' = 0 → (hand' C).toInt = S.toInt * (tv x y p 0 : Nat) ∧ tv x y p 0 < 1000000000000) ∧ ∀ r, r < 8 → r ≠ C → Fit (hand' r) := by
  have hSi := S_toInt hS1
  have e12 : (1000000000000 : Int64).toInt = 1000000000000 := by decide +kernel
  obtain ⟨e, h1, h2⟩ := itr_ex (f := fX9_times_L112 (nI A) (nI B) (nI C) S (nI p) Mr)
    (fun m s => ∃ q j isB hand nb nn, q ≤ 12 ∧ m = q ∧ j ≤ J + (12 - q) ∧ s = (dn q, nI j, isB, hand, nb, nn) ∧ (isB = 0 ∨ isB = 1) ∧ (isB = 0 → (hand C).toInt = S.toInt * (tv x y p q : Nat) ∧ tv x y p q < 1000000000000) ∧ ∀ r, r < 8 → r ≠ C → Fit (hand r))
    (fun e => ∃ j isB hand nb nn, e = (nI j, isB, hand, nb, nn) ∧ j ≤ J + 12 ∧ (isB = 0 ∨ isB = 1) ∧ (isB = 0 → (hand C).toInt = S.toInt * (tv x y p 0 : Nat) ∧ tv x y p 0 < 1000000000000) ∧ ∀ r, r < 8 → r ≠ C → Fit (hand r))
    (fun m s hI => by
      obtain ⟨q, j, isB, hand, nb, nn, hq, rfl, hj, rfl, hB01, hval, hoth⟩ := hI
      show (∃ e, fX9_times_L112b (nI A) (nI B) (nI C) S (nI p) Mr (dn m) (nI j) isB hand nb nn = some (.inr e) ∧ _) ∨ ∃ k s', k < m ∧ fX9_times_L112b (nI A) (nI B) (nI C) S (nI p) Mr (dn m) (nI j) isB hand nb nn = some (.inl s') ∧ _
      rcases m with _ | q
      · left
        unfold fX9_times_L112b
        rw [if_pos dn_0]
        exact ⟨_, rfl, j, isB, hand, nb, nn, rfl, by omega, hB01, hval, hoth⟩
      · rcases hB01 with rfl | rfl
        · right
          have hq12 : q < 12 := by omega
          have g1 := dgt_lt x p
          have g2 := dgt_lt y q
          have g3 : dgt x p * dgt y q ≤ 9 * 9 := Nat.mul_le_mul (by omega) (by omega)
          have hts := tv_step x y p q
          obtain ⟨hv1, hv2⟩ := hval rfl
          rw [dn_s, mul9_body hA hB hC hp hq12 hx hy hMA hMB]
          by_cases c : dgt x p * dgt y q = 0
          · rw [if_pos c]
            have hs : tv x y p q = tv x y p (q + 1) := by rw [hts, c, Nat.zero_mul, Nat.add_zero]
            exact ⟨q, _, by omega, rfl, q, j, 0, hand, nb, nn, by omega, rfl, by omega, rfl, Or.inl rfl, fun _ => by rw [hs]; exact ⟨hv1, hv2⟩, hoth⟩
          · rw [if_neg c]
            obtain ⟨d, hd⟩ : ∃ d, d = dgt x p * dgt y q := ⟨_, rfl⟩
            rw [← hd] at g3 hts c ⊢
            obtain ⟨V, hV⟩ : ∃ V, V = (if 11 < p + q then (1000000000000 : Int64) else hand C + (S * nI d).toInt64 * tensF (p + q)) := ⟨_, rfl⟩
            have hVC : (V = (1000000000000 : Int64)) ∨ (V.toInt = S.toInt * (tv x y p q : Nat) ∧ tv x y p q < 10000000000000) := by
              by_cases k : 11 < p + q
              · rw [if_pos k] at hV
                exact Or.inl hV
              · rw [if_neg k] at hV
                have h10 := pow10_le (show p + q < 12 by omega)
                have h11 : d * 10 ^ (p + q) ≤ 81 * 100000000000 := Nat.mul_le_mul g3 h10
                obtain ⟨w1, w2⟩ := tmul_val hS1 g3 (show p + q < 12 by omega) hv1 hts (by omega)
                rw [← hV] at w1
                exact Or.inr ⟨w1, by omega⟩
            rw [← hV]
            obtain ⟨hd', hhd⟩ : ∃ hd', hd' = vp_updL hand C V := ⟨_, rfl⟩
            rw [← hhd]
            have vC : hd' C = V := by rw [hhd, updL_at]
            have vo : ∀ r, r < 8 → r ≠ C → Fit (hd' r) := fun r hr hrC => by rw [hhd, updL_ne hrC]; exact hoth r hr hrC
            obtain ⟨isB', nb', nn', s1, s2, -⟩ := step9_n 1 (nI C) (nI (p + q)) (S * nI d) (-6) (-6) (j := j) (by omega) 0 (Or.inl rfl) hd' nb (fun r hr => by
              by_cases e : r = C
              · subst e
                rw [vC]
                rcases hVC with e | ⟨e, e2⟩
                · rw [e, e12]; omega
                · rw [e]
                  rcases hSi with s | s <;> rw [s] <;> omega
              · have := fit_abs.mp (vo r hr e)
                omega) nn
            rw [s1]
            simp only [bn4, Option.bind_some]
            refine ⟨q, _, by omega, rfl, q, j + 1, isB', hd', nb', nn', by omega, rfl, by omega, rfl, ?_, ?_, vo⟩
            · rcases s2 with ⟨e, -⟩ | ⟨e, -⟩
              · exact Or.inl e
              · exact Or.inr e
            · intro e0
              rcases s2 with ⟨-, -, e⟩ | ⟨e, -⟩
              · have hFC := e C hC
                rw [vC] at hFC
                rcases hVC with k | ⟨k, -⟩
                · rw [k] at hFC
                  exact absurd hFC beyond_nf
                · have := fit_abs.mp hFC
                  rw [k] at this
                  refine ⟨by rw [vC, k], ?_⟩
                  rcases hSi with s | s <;> rw [s] at this <;> omega
              · rw [e] at e0
                exact absurd e0 (by decide)
        · left
          unfold fX9_times_L112b
          rw [dn_s, if_neg (nI_not_neg (by omega)), if_neg (by decide)]
          exact ⟨_, rfl, j, 1, hand, nb, nn, rfl, by omega, Or.inr rfl, fun e => absurd e (by decide), hoth⟩) KF 12 ((11 : Int32), nI j0, isB, hand, nb, nn) (KF_lt (by decide)) ⟨12, j0, isB, hand, nb, nn, by omega, rfl, by omega, by rw [← dn_12], hB1, hv, hh⟩
  obtain ⟨j, isB', hand', nb', nn', rfl, h2⟩ := h2
  exact ⟨j, isB', hand', nb', nn', h1, h2⟩
theorem times9_run {A B C : Nat} (hA : A < 8) (hB : B < 8) (hC : C < 8) {x y : Int64} (hx : Fit x) (hy : Fit y) (hxy : ¬ x.toInt.natAbs * y.toInt.natAbs < 1000000000000) {S : Int32} (hS1 : S = 1 ∨ S = -1) (Mr : Nat → Int64) (hMA : Mr A = x) (hMB : Mr B = y) (hand nb : Nat → Int64) (nn : Nat → Int32) {j0 : Nat} (hj0 : j0 ≤ 1) (hz : hand C = 0) (hh : ∀ r, r < 8 → r ≠ C → Fit (hand r)) : ∃ st' hand' nb' nn', itr (fX9_times_L96 (nI A) (nI B) (nI C) S Mr) KF ((11 : Int32), nI j0, (0 : Int32), hand, nb, nn) = some (st', 1, hand', nb', nn') := by
  obtain ⟨e, h1, h2⟩ := itr_ex (f := fX9_times_L96 (nI A) (nI B) (nI C) S Mr)
    (fun m s => ∃ p j isB hand nb nn, p ≤ 12 ∧ m = p ∧ j ≤ 1 + (12 - p) * 12 ∧ s = (dn p, nI j, isB, hand, nb, nn) ∧ (isB = 0 ∨ isB = 1) ∧ (isB = 0 → (hand C).toInt = S.toInt * ((hiv x p * y.toInt.natAbs : Nat) : Int) ∧ hiv x p * y.toInt.natAbs < 1000000000000) ∧ ∀ r, r < 8 → r ≠ C → Fit (hand r))
    (fun e => e.2.1 = 1)
    (fun m s hI => by
      obtain ⟨p, j, isB, hand, nb, nn, hp, rfl, hj, rfl, hB01, hval, hoth⟩ := hI
      show (∃ e, fX9_times_L96b (nI A) (nI B) (nI C) S Mr (dn m) (nI j) isB hand nb nn = some (.inr e) ∧ _) ∨ ∃ k s', k < m ∧ fX9_times_L96b (nI A) (nI B) (nI C) S Mr (dn m) (nI j) isB hand nb nn = some (.inl s') ∧ _
      rcases m with _ | p
      · left
        unfold fX9_times_L96b
        rw [if_pos dn_0]
        refine ⟨_, rfl, ?_⟩
        rcases hB01 with rfl | rfl
        · obtain ⟨-, v2⟩ := hval rfl
          rw [hiv_0] at v2
          exact absurd v2 hxy
        · rfl
      · rcases hB01 with rfl | rfl
        · right
          have hp12 : p < 12 := by omega
          obtain ⟨v1, v2⟩ := hval rfl
          obtain ⟨j', isB', hand', nb', nn', r1, r2, r3, r4, r5⟩ := times9_in (J := 1 + (12 - (p + 1)) * 12) hA hB hC hp12 hx hy hS1 Mr hMA hMB (by omega) 0 (Or.inl rfl) hand nb nn hj (fun _ => by rw [tv_12 hy]; exact ⟨v1, v2⟩) hoth
          unfold fX9_times_L96b
          rw [dn_s, if_neg (nI_not_neg (by omega)), if_pos rfl, r1]
          simp only [bn5, Option.bind_some]
          refine ⟨p, _, by omega, rfl, p, j', isB', hand', nb', nn', by omega, rfl, by omega, rfl, r3, fun e => ?_, r5⟩
          have q := r4 e
          rw [tv_0] at q
          exact q
        · left
          unfold fX9_times_L96b
          rw [dn_s, if_neg (nI_not_neg (by omega)), if_neg (by decide)]
          exact ⟨_, rfl, rfl⟩) KF 12 ((11 : Int32), nI j0, (0 : Int32), hand, nb, nn) (KF_lt (by decide)) ⟨12, j0, 0, hand, nb, nn, by omega, rfl, by omega, by rw [← dn_12], Or.inl rfl, fun _ => by
        have z0 : (0 : Int64).toInt = 0 := rfl
        rw [hz, hiv_12 hx, Nat.zero_mul, z0]
        exact ⟨(Int.mul_zero _).symm, by omega⟩, hh⟩
  obtain ⟨e1, e2, e3, e4, e5⟩ := e
  dsimp only at h2
  subst h2
  exact ⟨e1, e3, e4, e5, h1⟩
