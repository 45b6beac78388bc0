/-! ===== clearing: the class's way back ===== -/
theorem upper_n {f : Nat → Int64} {k : Nat} (h : k < 4) : fX0_upper (nI k) f = some (f k) := by
  unfold fX0_upper
  rw [if_neg (nI_not_neg (by omega)), if_pos (show nI k < (4 : Int32) from nI_lt (b := 4) h (by decide)), rdJ_n h (by decide)]
  rfl
theorem div64 {a b : Int64} (hb : b.toInt ≠ 0) (ha : a.toInt.natAbs < 9223372036854775808) : dvJ a b = some (a / b) ∧ (a / b).toInt = a.toInt.tdiv b.toInt := by
  have hz : ¬ b = 0 := fun e => hb (by rw [e]; rfl)
  refine ⟨by unfold dvJ; rw [if_neg hz], ?_⟩
  have hle := Int.natAbs_tdiv_le_natAbs a.toInt b.toInt
  rw [Int64.toInt_div]
  apply Int.bmod_eq_of_le <;> omega
theorem Dne {u z D : Int} {L : Nat} (hD : D ≠ 0) (h : u * D = z * (L : Int)) (hL : L ≤ D.natAbs) : u.natAbs ≤ z.natAbs := by
  have h1 : u.natAbs * D.natAbs = z.natAbs * L := by
    have := congrArg Int.natAbs h
    rw [Int.natAbs_mul, Int.natAbs_mul, Int.natAbs_natCast] at this
    exact this
  have h2 : z.natAbs * L ≤ z.natAbs * D.natAbs := Nat.mul_le_mul_left _ hL
  have h3 : 0 < D.natAbs := by omega
  rw [← h1] at h2
  exact Nat.le_of_mul_le_mul_right h2 h3
theorem rest_n {n k L : Nat} (hn : n ≤ 4) (hk : k < n) {X up : Nat → Int64} (u : Nat → Int) (hu : ∀ i, k < i → i < n → (up i).toInt = u i ∧ (u i).natAbs ≤ 29997000000) (hL : L ≤ 150000000) (hr : ∀ i, k < i → i < n → (rw5 X k i).natAbs ≤ 750000) (hrn : (rw5 X k n).natAbs ≤ 29997000000) (x1 : Int64) (hx1 : x1.toInt = (L : Int)) : ∃ z, itr (fX0_solve_L40 x1 (nI k) (nI n) X up) KF (X (5 * k + n) * x1, nI k + (1 : Int32)) = some z ∧ z.toInt = rw5 X k n * (L : Int) - sm (fun i => rw5 X k i * u i) k n ∧ z.toInt.natAbs < 9223372036854775808 := by
  have h0 : (rw5 X k n * (L : Int)).natAbs ≤ 29997000000 * 150000000 := mul_bnd hrn (by omega)
  have hx0 : (X (5 * k + n) * x1).toInt = rw5 X k n * (L : Int) := by
    have e : (X (5 * k + n)).toInt = rw5 X k n := rfl
    rw [t64_mul] <;> rw [hx1, e] <;> omega
  have hsm0 : ∀ q, q ≤ k + 1 → sm (fun i => rw5 X k i * u i) k q = 0 := by
    intro q
    induction q with
    | zero => intro _; rfl
    | succ q ih =>
      intro hq
      simp only [sm]
      rw [ih (by omega), if_neg (by omega)]
      rfl
  obtain ⟨e, h1, h2⟩ := itr_ex (f := fX0_solve_L40 x1 (nI k) (nI n) X up)
    (fun m s => ∃ q y, k + 1 ≤ q ∧ q ≤ n ∧ m = n - q ∧ s = (y, nI q) ∧ y.toInt = rw5 X k n * (L : Int) - sm (fun i => rw5 X k i * u i) k q ∧ y.toInt.natAbs ≤ 29997000000 * 150000000 + q * 22497750000000000)
    (fun z => z.toInt = rw5 X k n * (L : Int) - sm (fun i => rw5 X k i * u i) k n ∧ z.toInt.natAbs < 9223372036854775808)
    (fun m s hI => by
      obtain ⟨q, y, hq1, hq2, rfl, rfl, hy, hyb⟩ := hI
      show (∃ e, fX0_solve_L40b x1 (nI k) (nI n) X up y (nI q) = some (.inr e) ∧ _) ∨ ∃ j s', j < n - q ∧ fX0_solve_L40b x1 (nI k) (nI n) X up y (nI q) = some (.inl s') ∧ _
      unfold fX0_solve_L40b
      rcases Nat.lt_or_ge q n with hlt | hge
      · right
        obtain ⟨u1, u2⟩ := hu q (by omega) hlt
        have hb : (rw5 X k q * u q).natAbs ≤ 750000 * 29997000000 := mul_bnd (hr q (by omega) hlt) u2
        have e : (X (5 * k + q)).toInt = rw5 X k q := rfl
        have hp : (X (5 * k + q) * up q).toInt = rw5 X k q * u q := by
          rw [t64_mul] <;> rw [u1, e] <;> omega
        have hys : (y - X (5 * k + q) * up q).toInt = y.toInt - rw5 X k q * u q := by
          rw [t64_sub] <;> rw [hp] <;> omega
        have hs : sm (fun i => rw5 X k i * u i) k (q + 1) = sm (fun i => rw5 X k i * u i) k q + rw5 X k q * u q := by
          simp only [sm]
          rw [if_pos (by omega)]
        rw [if_pos (nI_lt hlt (by omega)), cell5 (by omega), upper_n (by omega)]
        simp only [Option.bind_some, nI_inc]
        exact ⟨n - (q + 1), _, by omega, rfl, q + 1, _, by omega, by omega, rfl, rfl, by rw [hys, hy, hs]; omega, by rw [hys]; omega⟩
      · left
        have : q = n := by omega
        subst this
        rw [if_neg (nI_nlt (Nat.le_refl _) (by omega))]
        exact ⟨_, rfl, hy, by omega⟩) KF (n - (k + 1)) (X (5 * k + n) * x1, nI (k + 1)) (KF_lt (by omega)) ⟨k + 1, _, Nat.le_refl _, by omega, rfl, rfl, by rw [hx0, hsm0 (k + 1) (Nat.le_refl _)]; omega, by rw [hx0]; omega⟩
  rw [nI_inc]
  exact ⟨e, h1, h2⟩
theorem widen_n {n k w : Nat} (hn : n ≤ 4) (hk : k < n) (up : Nat → Int64) (hw : w < 9223372036854775808) (hb : ∀ i, k < i → i < n → ((up i).toInt * (w : Int)).natAbs < 9223372036854775808) (x1 : Int64) : ∃ up', itr (fX0_solve_L139 x1 (nI k) (lN w) (nI n)) KF (nI k + (1 : Int32), up) = some up' ∧ (∀ i, k < i → i < n → (up' i).toInt = (up i).toInt * (w : Int)) ∧ ∀ i, i ≤ k → up' i = up i := by
  have hwt : (lN w).toInt = (w : Int) := lN_toInt' hw
  obtain ⟨e, h1, h2⟩ := itr_ex (f := fX0_solve_L139 x1 (nI k) (lN w) (nI n))
    (fun m s => ∃ q f, k + 1 ≤ q ∧ q ≤ n ∧ m = n - q ∧ s = (nI q, f) ∧ (∀ i, k < i → i < q → (f i).toInt = (up i).toInt * (w : Int)) ∧ (∀ i, i ≤ k ∨ q ≤ i → f i = up i))
    (fun f => (∀ i, k < i → i < n → (f i).toInt = (up i).toInt * (w : Int)) ∧ ∀ i, i ≤ k → f i = up i)
    (fun m s hI => by
      obtain ⟨q, f, hq1, hq2, rfl, rfl, hdone, hrest⟩ := hI
      show (∃ e, fX0_solve_L139b x1 (nI k) (lN w) (nI n) (nI q) f = some (.inr e) ∧ _) ∨ ∃ j s', j < n - q ∧ fX0_solve_L139b x1 (nI k) (lN w) (nI n) (nI q) f = some (.inl s') ∧ _
      unfold fX0_solve_L139b
      rcases Nat.lt_or_ge q n with hlt | hge
      · right
        have hfq : f q = up q := hrest q (Or.inr (Nat.le_refl _))
        have hbq := hb q (by omega) hlt
        rw [if_pos (nI_lt hlt (by omega)), if_pos (show nI q < (4 : Int32) from nI_lt (b := 4) (by omega) (by decide)), rdJ_n (by omega) (by decide)]
        simp only [Option.bind_some]
        rw [wrJ_n _ (by omega) (by decide)]
        simp only [Option.bind_some, nI_inc]
        refine ⟨n - (q + 1), _, by omega, rfl, q + 1, _, by omega, by omega, rfl, rfl, fun i i1 i2 => ?_, fun i hi => ?_⟩
        · by_cases e : i = q
          · subst e
            rw [updL_at, hfq, t64_mul] <;> rw [hwt] <;> omega
          · rw [updL_ne e]; exact hdone i i1 (by omega)
        · rw [updL_ne (by omega)]; exact hrest i (by omega)
      · left
        have : q = n := by omega
        subst this
        rw [if_neg (nI_nlt (Nat.le_refl _) (by omega))]
        exact ⟨_, rfl, hdone, fun i hi => hrest i (Or.inl hi)⟩) KF (n - (k + 1)) (nI (k + 1), up) (KF_lt (by omega)) ⟨k + 1, up, Nat.le_refl _, by omega, rfl, rfl, fun i i1 i2 => absurd i1 (by omega), fun _ _ => rfl⟩
  rw [nI_inc]
  exact ⟨e, h1, h2⟩
/-- one unknown more, in numbers: r / (w L) is the answer, and w L parts D still -/
theorem solve_num {R under z D : Int} {L : Nat} (hL0 : 0 < L) (hu : under ≠ 0) (hD : D ≠ 0) (hLD : L ∣ D.natAbs) (h : R * D = under * z * (L : Int)) : ∃ (g w : Nat) (r : Int), g = Nat.gcd R.natAbs under.natAbs ∧ 0 < g ∧ under.natAbs = g * w ∧ (g : Int) * r = (if under < 0 then -R else R) ∧ 0 < w ∧ L * w ∣ D.natAbs ∧ r * D = z * ((L * w : Nat) : Int) := by
  have hua : 0 < under.natAbs := by omega
  obtain ⟨g, hg⟩ : ∃ g, g = Nat.gcd R.natAbs under.natAbs := ⟨_, rfl⟩
  have hg0 : 0 < g := by rw [hg]; exact Nat.gcd_pos_of_pos_right _ hua
  obtain ⟨w, hw⟩ : g ∣ under.natAbs := hg ▸ Nat.gcd_dvd_right _ _
  have hw0 : 0 < w := by
    rcases Nat.eq_zero_or_pos w with e | e
    · rw [e, Nat.mul_zero] at hw; omega
    · exact e
  obtain ⟨R', hR'⟩ : ∃ R', R' = (if under < 0 then -R else R) := ⟨_, rfl⟩
  have hRa : R'.natAbs = R.natAbs := by
    rw [hR']
    split
    · exact Int.natAbs_neg _
    · rfl
  have hdR : (g : Int) ∣ R' := by
    rw [Int.ofNat_dvd_left, hRa, hg]
    exact Nat.gcd_dvd_left _ _
  obtain ⟨r, hr⟩ := hdR
  -- with the sign taken off
  have h2 : R' * D = (under.natAbs : Int) * z * (L : Int) := by
    rw [hR']
    by_cases c : under < 0
    · rw [if_pos c, Int.neg_mul, h, show (under.natAbs : Int) = -under by omega, Int.neg_mul, Int.neg_mul]
    · rw [if_neg c, h, show (under.natAbs : Int) = under by omega]
  have h3 : r * D = z * ((L * w : Nat) : Int) := by
    have hgi : (g : Int) ≠ 0 := by omega
    apply Int.eq_of_mul_eq_mul_left hgi
    rw [← Int.mul_assoc, ← hr, h2, hw, Int.natCast_mul, Int.natCast_mul]
    grind
  refine ⟨g, w, r, hg, hg0, hw, hr.symm.trans hR', hw0, ?_, h3⟩
  obtain ⟨E, hE⟩ := hLD
  have hra : R.natAbs = g * r.natAbs := by rw [← hRa, hr, Int.natAbs_mul, Int.natAbs_natCast]
  have hcop : Nat.gcd r.natAbs w = 1 := by
    have q : g * Nat.gcd r.natAbs w = g * 1 := by rw [← Nat.gcd_mul_left, ← hra, ← hw, ← hg, Nat.mul_one]
    exact Nat.eq_of_mul_eq_mul_left hg0 q
  have h4 : r.natAbs * E = w * z.natAbs := by
    have q := congrArg Int.natAbs h3
    rw [Int.natAbs_mul, Int.natAbs_mul, Int.natAbs_natCast, hE] at q
    have q2 : L * (r.natAbs * E) = L * (w * z.natAbs) := by
      rw [Nat.mul_left_comm, q, Nat.mul_comm z.natAbs, Nat.mul_assoc]
    exact Nat.eq_of_mul_eq_mul_left hL0 q2
  have h5 : w ∣ r.natAbs * E := ⟨_, h4⟩
  have h6 : w ∣ E := Nat.Coprime.dvd_of_dvd_mul_left (Nat.Coprime.symm hcop) h5
  rw [hE]
  exact Nat.mul_dvd_mul_left _ h6
theorem solve_n {n : Nat} (hn1 : 1 ≤ n) (hn : n ≤ 4) {X : Nat → Int64} {z : Nat → Int} {D : Int} (hD : D ≠ 0) (hDb : D.natAbs ≤ 150000000) (hz : ∀ i, i < n → (z i).natAbs ≤ 29997000000) (hort : ∀ k, k < n → sa (fun i => rw5 X k i * z i) n = rw5 X k n * D) (hlow : ∀ k, k < n → ∀ i, i < k → rw5 X k i = 0) (hdiag : ∀ k, k < n → rw5 X k k ≠ 0) (hr : ∀ k, k < n → ∀ i, k < i → i < n → (rw5 X k i).natAbs ≤ 750000) (hrd : ∀ k, k < n → (rw5 X k k).natAbs ≤ 150000000) (hrn : ∀ k, k < n → (rw5 X k n).natAbs ≤ 29997000000) (up0 : Nat → Int64) : ∃ (L : Nat) (up : Nat → Int64), fX0_solve (nI n) X up0 = some (lN L, up) ∧ 0 < L ∧ L ≤ 150000000 ∧ ∀ i, i < n → (up i).toInt * D = z i * (L : Int) ∧ (up i).toInt.natAbs ≤ 29997000000 := by
  obtain ⟨e, h1, h2⟩ := itr_ex (f := fX0_solve_L9 (nI n) X)
    (fun m s => ∃ q L up, q ≤ n ∧ m = q ∧ s = (lN L, dn q, up) ∧ 0 < L ∧ L ∣ D.natAbs ∧ ∀ i, q ≤ i → i < n → (up i).toInt * D = z i * (L : Int))
    (fun e => ∃ L up, e = .inl (lN L, up) ∧ 0 < L ∧ L ∣ D.natAbs ∧ ∀ i, i < n → (up i).toInt * D = z i * (L : Int))
    (fun m s hI => by
      obtain ⟨q, L, up, hq, rfl, rfl, hL0, hLD, hup⟩ := hI
      show (∃ e, fX0_solve_L9b (nI n) X (lN L) (dn m) up = some (.inr e) ∧ _) ∨ ∃ j s', j < m ∧ fX0_solve_L9b (nI n) X (lN L) (dn m) up = some (.inl s') ∧ _
      unfold fX0_solve_L9b
      rcases m with _ | k
      · left
        rw [if_pos dn_0]
        exact ⟨_, rfl, L, up, rfl, hL0, hLD, fun i hi => hup i (by omega) hi⟩
      · right
        have hkn : k < n := by omega
        have hLle : L ≤ D.natAbs := Nat.le_of_dvd (by omega) hLD
        have hLt : (lN L).toInt = (L : Int) := lN_toInt' (by omega)
        have hub : ∀ i, k < i → i < n → (up i).toInt.natAbs ≤ 29997000000 := fun i i1 i2 => Nat.le_trans (Dne hD (hup i (by omega) i2) hLle) (hz i i2)
        obtain ⟨R, r1, r2, r3⟩ := rest_n hn hkn (fun i => (up i).toInt) (fun i i1 i2 => ⟨rfl, hub i i1 i2⟩) (show L ≤ 150000000 by omega) (hr k hkn) (hrn k hkn) (lN L) hLt
        -- what the rest is
        have hRD : R.toInt * D = rw5 X k k * z k * (L : Int) := by
          have o1 := hort k hkn
          have o2 := sa_sm (f := fun i => rw5 X k i * z i) (k := k) (fun i hi => by
            show rw5 X k i * z i = 0
            rw [hlow k hkn i hi, Int.zero_mul]) n
          rw [if_pos hkn] at o2
          have o3 := sm_mul (row := rw5 X k) (z := z) (u := fun i => (up i).toInt) (L := (L : Int)) (D := D) (k := k) n (fun i i1 i2 => (hup i (by omega) i2).symm)
          have o4 : rw5 X k k * z k = rw5 X k n * D - sm (fun i => rw5 X k i * z i) k n := by
            rw [← o1, o2]
            show rw5 X k k * z k = rw5 X k k * z k + sm (fun i => rw5 X k i * z i) k n - sm (fun i => rw5 X k i * z i) k n
            omega
          rw [o4, r2, Int.sub_mul, Int.sub_mul, o3]
          grind
        obtain ⟨g, w, r, s1, s2, s3, s4, s5, s6, s7⟩ := solve_num hL0 (hdiag k hkn) hD hLD hRD
        have hud := hrd k hkn
        have hut : (X (5 * k + k)).toInt = rw5 X k k := rfl
        have hw1 : w ≤ g * w := Nat.le_mul_of_pos_left _ s2
        have hg1 : g ≤ g * w := Nat.le_mul_of_pos_right _ s5
        have hgt : (lN g).toInt = (g : Int) := lN_toInt' (by omega)
        have hgne : (lN g).toInt ≠ 0 := by rw [hgt]; omega
        have hgz : ¬ lN g = (0 : Int64) := fun e => by
          have := (lN_z (by omega)).mp e
          omega
        have hgcd : fX5_greatestPart R (X (5 * k + k)) = some (lN g) := by
          rw [gcd8 (by omega) (by rw [hut]; omega), hut, ← s1]
        -- the wider part
        have hja : (jabs (X (5 * k + k))).toInt = ((g * w : Nat) : Int) := by
          rw [jabs_toInt' (by rw [hut]; omega), hut, s3]
        obtain ⟨v1, v2⟩ := div64 (a := jabs (X (5 * k + k))) hgne (by rw [hja]; omega)
        have hvw : jabs (X (5 * k + k)) / lN g = lN w := by
          apply lN_of_toInt
          rw [v2, hja, hgt, Int.natCast_mul]
          exact Int.mul_tdiv_cancel_left _ (by omega)
        rw [hvw] at v1
        have hLw : L * w ≤ D.natAbs := Nat.le_of_dvd (by omega) s6
        have hwb : ∀ i, k < i → i < n → ((up i).toInt * (w : Int)) * D = z i * ((L * w : Nat) : Int) := fun i i1 i2 => by
          have := hup i (by omega) i2
          rw [Int.natCast_mul, ← Int.mul_assoc, ← this]
          grind
        have hrb : r.natAbs ≤ 29997000000 := Nat.le_trans (Dne hD s7 hLw) (hz k hkn)
        have hlow' : lN L * lN w = lN (L * w) := by
          have hwt : (lN w).toInt = (w : Int) := lN_toInt' (by omega)
          apply lN_of_toInt
          rw [t64_mul] <;> rw [hLt, hwt, ← Int.natCast_mul] <;> omega
        have fin : ∀ y : Int64, y.toInt = r → ∃ up', itr (fX0_solve_L139 (lN L) (nI k) (lN w) (nI n)) KF (nI k + (1 : Int32), vp_updL up k y) = some up' ∧ ∀ i, k ≤ i → i < n → (up' i).toInt * D = z i * ((L * w : Nat) : Int) := by
          intro y hy
          obtain ⟨up', w1, w2, w3⟩ := widen_n hn hkn (vp_updL up k y) (show w < 9223372036854775808 by omega) (fun i i1 i2 => by
            rw [updL_ne (by omega)]
            have := Dne hD (hwb i i1 i2) hLw
            have := hz i i2
            omega) (lN L)
          refine ⟨up', w1, fun i i1 i2 => ?_⟩
          by_cases e : i = k
          · subst e
            rw [w3 i (Nat.le_refl _), updL_at, hy]
            exact s7
          · rw [w2 i (by omega) i2, updL_ne (by omega)]
            exact hwb i (by omega) i2
        rw [dn_s, if_neg (nI_not_neg (by omega)), if_pos (show nI k < (4 : Int32) from nI_lt (b := 4) (by omega) (by decide)), cell5 (by omega), cell5 (by omega)]
        simp only [Option.bind_some]
        rw [r1]
        simp only [Option.bind_some]
        rw [hgcd]
        simp only [Option.bind_some]
        rw [if_neg hgz, v1]
        simp only [Option.bind_some]
        have z0 : (0 : Int64).toInt = 0 := rfl
        by_cases c : rw5 X k k < 0
        · rw [if_pos c] at s4
          have hneg : (-R).toInt = -R.toInt := t64_neg (by omega)
          obtain ⟨y1, y2⟩ := div64 (a := -R) hgne (by rw [hneg]; omega)
          have hyr : (-R / lN g).toInt = r := by
            rw [y2, hneg, ← s4, hgt]
            exact Int.mul_tdiv_cancel_left _ (by omega)
          obtain ⟨up', f1, f2⟩ := fin _ hyr
          rw [if_pos (show X (5 * k + k) < (0 : Int64) by rw [Int64.lt_iff_toInt_lt, hut, z0]; exact c), y1]
          simp only [Option.bind_some]
          rw [wrJ_n _ (by omega) (by decide)]
          simp only [Option.bind_some]
          rw [f1]
          simp only [Option.bind_some]
          rw [hlow']
          exact ⟨k, _, by omega, rfl, k, L * w, up', by omega, rfl, rfl, Nat.mul_pos hL0 s5, s6, f2⟩
        · rw [if_neg c] at s4
          obtain ⟨y1, y2⟩ := div64 (a := R) hgne r3
          have hyr : (R / lN g).toInt = r := by
            rw [y2, ← s4, hgt]
            exact Int.mul_tdiv_cancel_left _ (by omega)
          obtain ⟨up', f1, f2⟩ := fin _ hyr
          rw [if_neg (show ¬ X (5 * k + k) < (0 : Int64) by rw [Int64.lt_iff_toInt_lt, hut, z0]; exact c), y1]
          simp only [Option.bind_some]
          rw [wrJ_n _ (by omega) (by decide)]
          simp only [Option.bind_some]
          rw [f1]
          simp only [Option.bind_some]
          rw [hlow']
          exact ⟨k, _, by omega, rfl, k, L * w, up', by omega, rfl, rfl, Nat.mul_pos hL0 s5, s6, f2⟩) KF n ((1 : Int64), dn n, up0) (KF_lt (by omega)) ⟨n, 1, up0, Nat.le_refl _, rfl, rfl, by omega, Nat.one_dvd _, fun i i1 i2 => absurd i1 (by omega)⟩
  obtain ⟨L, up, rfl, hL0, hLD, hup⟩ := h2
  have hLle : L ≤ D.natAbs := Nat.le_of_dvd (by omega) hLD
  have hdn : nI n - (1 : Int32) = dn n := by
    obtain ⟨q, rfl⟩ : ∃ q, n = q + 1 := ⟨n - 1, by omega⟩
    rw [nI_p1, dn_s]
  unfold fX0_solve
  rw [hdn, h1]
  exact ⟨L, up, rfl, hL0, by omega, fun i hi => ⟨hup i hi, Nat.le_trans (Dne hD (hup i hi) hLle) (hz i hi)⟩⟩
