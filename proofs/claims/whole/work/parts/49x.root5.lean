/-! ===== root: the loop ===== -/
theorem rpow {k L : Nat} (hk : k = 3 ∧ L = 6 ∨ k = 4 ∧ L = 4) {x v : Int64} {X V : Nat} (hx : x.toInt = X) (hX : X < 2 * 10 ^ L) (hv : v.toInt = V) (hV : V < 1000000000000) : ∃ z8 z9, fX5_power x (nI (k - 1)) = some z8 ∧ fX9_power x (nI (k - 1)) = some z9 ∧ z9.toInt = ((PW k X : Nat) : Int) ∧ (V < PW k X ∧ (z8 = LOSTv ∨ v < z8) ∧ v < z9 ∨ ¬ V < PW k X ∧ ¬ z8 = LOSTv ∧ ¬ v < z8 ∧ ¬ v < z9) := by
  rcases hk with ⟨rfl, rfl⟩ | ⟨rfl, rfl⟩
  · have e : PW 3 X = X * X := if_pos rfl
    rw [e]
    exact rpow2 hx (by omega) hv hV
  · have e : PW 4 X = X * X * X := if_neg (by decide)
    rw [e]
    exact rpow3 hx (by omega) hv hV
theorem PW_lt {k L : Nat} (hk : k = 3 ∧ L = 6 ∨ k = 4 ∧ L = 4) {X : Nat} (h : PW k X < 1000000000000) : X < 10 ^ L := by
  rcases hk with ⟨rfl, rfl⟩ | ⟨rfl, rfl⟩
  · exact PW_lt3 h
  · exact PW_lt4 h
theorem PW_0 (k : Nat) : PW k 0 = 0 := by
  unfold PW
  by_cases c : k = 3
  · rw [if_pos c]
  · rw [if_neg c]
theorem root_run {A B k L : Nat} (hk : k = 3 ∧ L = 6 ∨ k = 4 ∧ L = 4) (hA : A < 8) (hB : B < 8) (hAB : A ≠ B) (f Xr Mr : Nat → Int64) (hXr : Xr A = f A) (hMr : Mr A = f A) (hf : ∀ r, r < 8 → Fit (f r)) (ha0 : 0 ≤ (f A).toInt) {j0 : Nat} (hj0 : j0 ≤ 1) {Xb Xc Xn st isB hand nb nn} (h : CI j0 Xb Xc Xn st isB hand nb nn) (hz : hand B = 0) (hh : ∀ r, r < 8 → r ≠ B → hand r = f r) : ∃ j Xb' Xc' Xn' st' isB' hand' nb' nn', itr (fX7_rootRow_L17 (nI A) (nI B) (nI (k - 1)) Xr) KF (dn L, Xb, Xc, Xn) = some (Xb', Xc', Xn') ∧ itr (fX9_root_L76 (nI A) (nI B) (nI (k - 1)) Mr) KF (dn L, st, isB, hand, nb, nn) = some (st', isB', hand', nb', nn') ∧ CI j Xb' Xc' Xn' st' isB' hand' nb' nn' := by
  obtain ⟨V, hfa⟩ : ∃ V : Nat, (f A).toInt = V := ⟨(f A).toInt.toNat, by omega⟩
  have ha12 := fit_abs.mp (hf A hA)
  have hV : V < 1000000000000 := by omega
  have hL6 : L ≤ 6 := by rcases hk with ⟨-, e⟩ | ⟨-, e⟩ <;> omega
  have hpl : pwL k = 10 ^ L := by rcases hk with ⟨rfl, rfl⟩ | ⟨rfl, rfl⟩ <;> rfl
  have ekk : nI (k - 1) + (1 : Int32) = nI k := by rcases hk with ⟨rfl, rfl⟩ | ⟨rfl, rfl⟩ <;> rfl
  have ek : ∀ {α : Type} (F : Int32 → Option α), (if nI (k - 1) = (2 : Int32) then F (3 : Int32) else F (4 : Int32)) = F (nI k) := by
    intro α F
    rcases hk with ⟨rfl, rfl⟩ | ⟨rfl, rfl⟩
    · exact if_pos rfl
    · exact if_neg (by decide)
  have hnote : ∀ q, q < L → (k = 2 ∧ (0 : Nat) < 8 ∧ (0 : Nat) ≠ A ∧ (0 : Nat) ≠ B ∧ (0 : Int32) = nI 0 ∨ k = 3 ∧ q < 6 ∨ k = 4 ∧ q < 4) := by
    intro q hq
    rcases hk with ⟨h1, h2⟩ | ⟨h1, h2⟩
    · exact Or.inr (Or.inl ⟨h1, by omega⟩)
    · exact Or.inr (Or.inr ⟨h1, by omega⟩)
  have hk34 : k = 3 ∨ k = 4 := by rcases hk with ⟨e, -⟩ | ⟨e, -⟩ <;> omega
  obtain ⟨e, e', h1, h2, h3⟩ := itr_rel (f := fX7_rootRow_L17 (nI A) (nI B) (nI (k - 1)) Xr) (g := fX9_root_L76 (nI A) (nI B) (nI (k - 1)) Mr)
    (fun m s t => ∃ q j Y Xb Xc Xn st isB hand nb nn, q ≤ L ∧ m = q ∧ j + q ≤ L + 1 ∧ s = (dn q, Xb, Xc, Xn) ∧ t = (dn q, st, isB, hand, nb, nn) ∧ CI j Xb Xc Xn st isB hand nb nn ∧ (hand B).toInt = (Y : Nat) ∧ PW k Y ≤ V ∧ (hand A).toInt = (V : Int) - (PW k Y : Nat) ∧ ∀ r, r < 8 → r ≠ A → r ≠ B → hand r = f r)
    (fun e e' => ∃ j Xb Xc Xn st isB hand nb nn, e = (Xb, Xc, Xn) ∧ e' = (st, isB, hand, nb, nn) ∧ CI j Xb Xc Xn st isB hand nb nn)
    (fun m s t hI => by
      obtain ⟨q, j, Y, Xb, Xc, Xn, st, isB, hand, nb, nn, hq, rfl, hj, rfl, rfl, hCI, hvB, hPY, hvA, hoth⟩ := hI
      show (∃ e e', fX7_rootRow_L17b (nI A) (nI B) (nI (k - 1)) Xr (dn m) Xb Xc Xn = some (.inr e) ∧ fX9_root_L76b (nI A) (nI B) (nI (k - 1)) Mr (dn m) st isB hand nb nn = some (.inr e') ∧ _) ∨ ∃ j' s' t', j' < m ∧ fX7_rootRow_L17b (nI A) (nI B) (nI (k - 1)) Xr (dn m) Xb Xc Xn = some (.inl s') ∧ fX9_root_L76b (nI A) (nI B) (nI (k - 1)) Mr (dn m) st isB hand nb nn = some (.inl t') ∧ _
      rcases m with _ | q
      · left
        unfold fX7_rootRow_L17b fX9_root_L76b
        rw [if_pos dn_0, if_pos dn_0]
        exact ⟨_, _, rfl, rfl, j, Xb, Xc, Xn, st, isB, hand, nb, nn, rfl, rfl, hCI⟩
      · right
        have hq12 : q < 12 := by omega
        have hYL : Y < 10 ^ L := PW_lt hk (by omega)
        have hx : ∀ d, d ≤ 9 → (hand B + (nI d).toInt64 * tensF q).toInt = ((Y + d * 10 ^ q : Nat) : Int) ∧ Y + d * 10 ^ q < 2 * 10 ^ L := fun d hd => root_x hvB hL6 hYL hd (by omega)
        have hp : ∀ d, d ≤ 9 → ∃ z8 z9, fX5_power (hand B + (nI d).toInt64 * tensF q) (nI (k - 1)) = some z8 ∧ fX9_power (hand B + (nI d).toInt64 * tensF q) (nI (k - 1)) = some z9 ∧ z9.toInt = ((PW k (Y + d * 10 ^ q) : Nat) : Int) ∧ (V < PW k (Y + d * 10 ^ q) ∧ (z8 = LOSTv ∨ f A < z8) ∧ f A < z9 ∨ ¬ V < PW k (Y + d * 10 ^ q) ∧ ¬ z8 = LOSTv ∧ ¬ f A < z8 ∧ ¬ f A < z9) := fun d hd => rpow hk (hx d hd).1 (hx d hd).2 hfa hV
        obtain ⟨D, hD9, r8, r9, hD1, hD2⟩ := root_dig (v := f A) (y := hand B) (kI := nI (k - 1)) (V := V) hq12 hA hB (fun d => PW k (Y + d * 10 ^ q)) (fun d d1 d9 => by
          obtain ⟨z8, z9, g1, g2, -, g3⟩ := hp d d9
          exact ⟨z8, z9, g1, g2, g3⟩) Mr hand hMr rfl
        obtain ⟨i48, rfl, rfl, rfl, hc, hn, hok, hlast⟩ := id hCI
        have hlB : fX7_latest (nI B) (nI (j + 1)) Xc = some (hand B) := by rw [latest_n i48 hB, hlast B hB]
        unfold fX7_rootRow_L17b fX9_root_L76b
        rw [dn_s, if_neg (nI_not_neg (by omega)), if_neg (nI_not_neg (by omega)), hlB, held_n hA, hXr]
        simp only [Option.bind_some]
        rw [r8, r9]
        simp only [Option.bind_some]
        by_cases c : D = 0
        · subst c
          rw [if_pos (show nI 0 = (0 : Int32) from rfl), if_neg (show ¬ (0 : Int32) < nI 0 by decide)]
          exact ⟨q, _, _, by omega, rfl, rfl, q, j, Y, nI (j + 1), Xc, Xn, nI j, 0, hand, nb, nn, by omega, rfl, by omega, rfl, rfl, hCI, hvB, hPY, hvA, hoth⟩
        · have hV' : ¬ V < PW k (Y + D * 10 ^ q) := by
            rcases hD1 with e | e
            · exact absurd e c
            · exact e
          obtain ⟨z8, z9, -, g2, g3, -⟩ := hp D hD9
          obtain ⟨w1, w2⟩ := hx D hD9
          obtain ⟨Y', hY'⟩ : ∃ Y', Y' = Y + D * 10 ^ q := ⟨_, rfl⟩
          rw [← hY'] at hV' g3 w1 w2
          have hYL' : Y' < 10 ^ L := PW_lt hk (by omega)
          rw [if_neg (fun e => c ((nI_z (by omega)).mp e)), if_pos ((nI_p (by omega)).mpr (by omega)), rdJ_n hB (by decide), ten9 q hq12]
          simp only [Option.bind_some]
          rw [wrJ_n _ hB (by decide)]
          simp only [Option.bind_some]
          rw [rdJ_n hA (by decide), hMr, rdJ_n hB (by decide), updL_at]
          simp only [Option.bind_some]
          rw [g2]
          simp only [Option.bind_some]
          rw [wrJ_n _ hA (by decide)]
          simp only [Option.bind_some]
          obtain ⟨hd', hhd⟩ : ∃ hd', hd' = vp_updL (vp_updL hand B (hand B + (nI D).toInt64 * tensF q)) A (f A - z9) := ⟨_, rfl⟩
          rw [← hhd, ekk, ek (fun w => bn3 (fX3_go w (nI A) (nI q) (nI D) (nI B) (-6 : Int32) (nI (j + 1)) Xc Xn) (fun w_15 w_16 w_17 => some (Sum.inl (nI q + (-1 : Int32), w_15, w_16, w_17))))]
          have vA : (hd' A).toInt = (V : Int) - (PW k Y' : Nat) := by
            rw [hhd, updL_at, t64_sub] <;> rw [g3, hfa] <;> omega
          have vB : (hd' B).toInt = (Y' : Nat) := by rw [hhd, updL_ne (fun e => hAB e.symm), updL_at]; exact w1
          have vo : ∀ r, r < 8 → r ≠ A → r ≠ B → hd' r = f r := fun r hr q1 q2 => by rw [hhd, updL_ne q1, updL_ne q2]; exact hoth r hr q1 q2
          have hDi : (nI D).toInt = (D : Int) := nI_toInt (by omega)
          have hm : mI (D : Int) q = ((D * 10 ^ q : Nat) : Int) := by unfold mI; rw [Int.natCast_mul]
          have hYm : (Y : Int) + mI (D : Int) q = (Y' : Int) := by rw [hm, hY']; omega
          have hten6 : (10 : Nat) ^ L ≤ 10 ^ 6 := Nat.pow_le_pow_right (by decide) hL6
          have e6 : (10 : Nat) ^ 6 = 1000000 := rfl
          obtain ⟨Xb', Xc', Xn', st', isB', nb', nn', g4, g5, g6⟩ := CI_step (nI k) (nI A) (nI q) (nI D) (nI B) (-6) (k := k) (a := A) (p := q) (d := (D : Int)) (b := B) (c := 0) hCI (by omega) (fun N' n0 n1 n2 n3 n4 n5 => ⟨n0, n1, n2, by rw [n3]; exact hDi, hA, by omega, by omega, Or.inr (Or.inr (Or.inr ⟨by omega, by omega, hB, fun e => hAB e.symm, n4, by
              rcases hk with ⟨h1, h2⟩ | ⟨h1, h2⟩
              · exact Or.inr (Or.inl ⟨h1, by omega⟩)
              · exact Or.inr (Or.inr ⟨h1, by omega⟩)⟩))⟩) hB hd' (fun r hr => by
            have ew : wval k A (mI (D : Int) q) B 0 (fun r => (hand r).toInt) r = if r = B then (hand r).toInt + mI (D : Int) q else if r = A then (hand r).toInt - (pwI k ((hand B).toInt + mI (D : Int) q) - pwI k (hand B).toInt) else (hand r).toInt := by
              unfold wval
              rw [if_neg (by omega), if_neg (by omega), if_neg (by omega)]
            have eo : wok k A (mI (D : Int) q) B (fun r => (hand r).toInt) r := fun _ => ⟨fun e => by omega, fun _ => by
              show ((hand B).toInt).natAbs < pwL k ∧ ((hand B).toInt + mI (D : Int) q).natAbs < pwL k
              rw [hvB, hYm, hpl]
              exact ⟨by omega, by omega⟩⟩
            rw [ew]
            by_cases e1 : r = B
            · subst e1
              rw [if_pos rfl]
              exact ⟨fit_abs.mpr (by rw [vB]; omega), by rw [vB, hvB, hYm], eo⟩
            · rw [if_neg e1]
              by_cases e2 : r = A
              · subst e2
                rw [if_pos rfl]
                exact ⟨fit_abs.mpr (by rw [vA]; omega), by rw [vA, hvA, hvB, hYm, PW_I, PW_I]; omega, eo⟩
              · rw [if_neg e2, vo r hr e2 e1]
                exact ⟨hf r hr, by rw [hoth r hr e2 e1], eo⟩)
          rw [g4, g5]
          simp only [bn3, bn4, Option.bind_some]
          exact ⟨q, _, _, by omega, rfl, rfl, q, j + 1, Y', Xb', Xc', Xn', st', isB', hd', nb', nn', by omega, rfl, by omega, rfl, rfl, g6, vB, by omega, vA, vo⟩) KF L (dn L, Xb, Xc, Xn) (dn L, st, isB, hand, nb, nn) (KF_lt (by omega)) ⟨L, j0, 0, Xb, Xc, Xn, st, isB, hand, nb, nn, by omega, rfl, by omega, rfl, rfl, h, by rw [hz]; rfl, by rw [PW_0]; omega, by rw [hh A hA hAB, hfa, PW_0]; omega, fun r hr _ q => hh r hr q⟩
  obtain ⟨j, Xb', Xc', Xn', st', isB', hand', nb', nn', rfl, rfl, h3⟩ := h3
  exact ⟨j, Xb', Xc', Xn', st', isB', hand', nb', nn', h1, h2, h3⟩
