/-! ===== readings: the reference ===== -/
theorem sh12 : ∀ p, p < 12 → ((nI p &&& (31 : Int32)).toBitVec.smod 32).toNat = p := by decide +kernel
theorem bit_n {m p : Nat} (hm : m < 4096) (hp : p < 12) : ((nI m >>> (nI p &&& (31 : Int32))) &&& (1 : Int32)) = nI (m / 2 ^ p % 2) := by
  have h1 : m / 2 ^ p ≤ m := Nat.div_le_self _ _
  rw [pk_shrN (by omega) _ p (sh12 p hp), pk_andN (by omega) 1 (by decide)]
theorem rdg_none {c : Nat} {W Z : Nat → Nat} {m p : Nat} (h : ∀ g, rdg c W Z p g (m % 2 ^ p) = none) : ∀ q, p ≤ q → ∀ g, rdg c W Z q g (m % 2 ^ q) = none := by
  intro q
  induction q with
  | zero =>
    intro hq g
    have : p = 0 := by omega
    subst this
    exact h g
  | succ q ih =>
    intro hq g
    by_cases e : p = q + 1
    · subst e; exact h g
    · have ih' := ih (by omega)
      have h2 : m / 2 ^ q % 2 < 2 := Nat.mod_lt _ (by decide)
      have h3 : m % 2 ^ q < 2 ^ q := Nat.mod_lt _ (Nat.two_pow_pos q)
      have hms := Nat.mod_pow_succ (x := m) (b := 2) (k := q)
      rcases (show m / 2 ^ q % 2 = 0 ∨ m / 2 ^ q % 2 = 1 by omega) with b | b
      · rw [b] at hms
        have hms' : m % 2 ^ (q + 1) = m % 2 ^ q := by omega
        rw [hms', rdg_lo h3]
        exact ih' g
      · rw [b] at hms
        have hms' : m % 2 ^ (q + 1) = 2 ^ q + m % 2 ^ q := by omega
        rw [hms', rdg_hi, ih' (g + 1)]
        simp only [Option.map_none, ite_self]
def rv : Option Nat → Int64
  | none => -1
  | some v => lN v
theorem rd_val {v z p : Nat} (hv : v < 10 ^ p) (hz : z ≤ 9) (hp : p < 12) : lN v + (nI z).toInt64 * tensF p = lN (v + z * 10 ^ p) := by
  have hT := pow10_le hp
  have h1 : z * 10 ^ p ≤ 9 * 100000000000 := Nat.mul_le_mul hz hT
  obtain ⟨m1, m2⟩ := more_ok (nd := nI z) (d := (z : Int)) (p := p) (nI_toInt (by omega)) (by omega) hp
  have m1' : ((nI z).toInt64 * tensF p).toInt = ((z * 10 ^ p : Nat) : Int) := by rw [m1, Int.natCast_mul]
  have hv' : (lN v).toInt = (v : Int) := lN_toInt' (by omega)
  apply lN_of_toInt
  rw [t64_add] <;> rw [m1', hv'] <;> omega
theorem readingBy_n {c : Nat} {W Z : Nat → Nat} (hc : c ≤ 12) {st gw : Nat → Int32} (hR : ∀ i, i < c → st i = nI (Z i) ∧ gw i = nI (W i) ∧ 1 ≤ Z i ∧ Z i ≤ 9 ∧ W i < 2) {m : Nat} (hm : m < 4096) : fX9_readingBy (nI m) (nI c) st gw = some (rv (rdg c W Z 12 0 m)) := by
  have hm12 : m % 2 ^ 12 = m := Nat.mod_eq_of_lt hm
  have hZ : ∀ g, g < c → Z g ≤ 9 := fun g hg => (hR g hg).2.2.2.1
  obtain ⟨e, h1, h2⟩ := itr_ex (f := fX9_readingBy_L11 (nI m) st gw)
    (fun k s => ∃ p v g, p ≤ 12 ∧ k = 12 - p ∧ s = (lN v, nI g, nI p) ∧ g ≤ c ∧ rdg c W Z p g (m % 2 ^ p) = some v ∧ ∀ g', g' ≠ g → rdg c W Z p g' (m % 2 ^ p) = none)
    (fun e => (Sum.elim (un2 (fun x2_11 x4_12 => if x4_12 = (0 : Int32) then some x2_11 else some (-1 : Int64))) (fun rr_14 => some rr_14)) e = some (rv (rdg c W Z 12 0 m)))
    (fun k s hI => by
      obtain ⟨p, v, g, hp, rfl, rfl, hg, hv, hno⟩ := hI
      show (∃ e, fX9_readingBy_L11b (nI m) st gw (lN v) (nI g) (nI p) = some (.inr e) ∧ _) ∨ ∃ j s', j < 12 - p ∧ fX9_readingBy_L11b (nI m) st gw (lN v) (nI g) (nI p) = some (.inl s') ∧ _
      unfold fX9_readingBy_L11b
      rcases Nat.lt_or_ge p 12 with hlt | hge
      · have h3 : m % 2 ^ p < 2 ^ p := Nat.mod_lt _ (Nat.two_pow_pos p)
        have h2 : m / 2 ^ p % 2 < 2 := Nat.mod_lt _ (by decide)
        have hv10 := rdg_lt hZ p g _ _ hv
        have hms := Nat.mod_pow_succ (x := m) (b := 2) (k := p)
        rw [if_pos (lt12 hlt), bit_n hm hlt]
        rcases (show m / 2 ^ p % 2 = 0 ∨ m / 2 ^ p % 2 = 1 by omega) with b | b
        · right
          rw [b] at hms
          have hms : m % 2 ^ (p + 1) = m % 2 ^ p := by omega
          rw [b, if_neg (show ¬ nI 0 = (1 : Int32) by decide), nI_inc]
          refine ⟨12 - (p + 1), _, by omega, rfl, p + 1, v, g, by omega, rfl, rfl, hg, ?_, fun g' hg' => ?_⟩
          · rw [hms, rdg_lo h3]; exact hv
          · rw [hms, rdg_lo h3]; exact hno g' hg'
        · rw [b] at hms
          have hms : m % 2 ^ (p + 1) = 2 ^ p + m % 2 ^ p := by omega
          rw [b, if_pos (show nI 1 = (1 : Int32) from rfl)]
          have hdead : (∀ g', rdg c W Z (p + 1) g' (m % 2 ^ (p + 1)) = none) → rdg c W Z 12 0 m = none := fun q => by
            have := rdg_none q 12 (by omega) 0
            rw [hm12] at this
            exact this
          rcases g with _ | g
          · left
            rw [if_pos (show nI 0 + (-1 : Int32) < (0 : Int32) by decide)]
            refine ⟨_, rfl, ?_⟩
            rw [hdead (fun g' => by rw [hms, rdg_hi, hno (g' + 1) (by omega)]; simp only [Option.map_none, ite_self])]
            rfl
          · obtain ⟨r1, r2, r3, r4, r5⟩ := hR g (by omega)
            have hdn : nI (g + 1) + (-1 : Int32) = nI g := dn_s g
            rw [hdn, if_neg (nI_not_neg (by omega)), rdI_n (by omega) (by decide), rdI_n (by omega) (by decide), ten9 p hlt, r1, r2, (way_ok p hlt).2]
            simp only [Option.bind_some]
            by_cases w : W g = p % 2
            · right
              rw [if_pos (by rw [w]), nI_inc, rd_val hv10 r4 hlt]
              refine ⟨12 - (p + 1), _, by omega, rfl, p + 1, v + Z g * 10 ^ p, g, by omega, rfl, rfl, by omega, ?_, fun g' hg' => ?_⟩
              · rw [hms, rdg_hi, if_pos ⟨by omega, w⟩, hv]; rfl
              · rw [hms, rdg_hi, hno (g' + 1) (by omega)]; simp only [Option.map_none, ite_self]
            · left
              rw [if_neg (nI_ne w (by omega) (by omega))]
              refine ⟨_, rfl, ?_⟩
              rw [hdead (fun g' => by
                rw [hms, rdg_hi]
                by_cases e : g' = g
                · subst e
                  rw [if_neg (fun q => w q.2)]
                · rw [hno (g' + 1) (by omega)]
                  simp only [Option.map_none, ite_self])]
              rfl
      · left
        have : p = 12 := by omega
        subst this
        rw [if_neg (by decide)]
        refine ⟨_, rfl, ?_⟩
        rw [hm12] at hv hno
        show (if nI g = (0 : Int32) then some (lN v) else some (-1 : Int64)) = _
        by_cases e : g = 0
        · subst e
          rw [if_pos (show nI 0 = (0 : Int32) from rfl), hv]; rfl
        · rw [if_neg (fun q => e ((nI_z (by omega)).mp q)), hno 0 (fun q => e q.symm)]; rfl) KF 12 ((0 : Int64), nI c, (0 : Int32)) (KF_lt (by decide)) ⟨0, 0, c, by omega, rfl, rfl, Nat.le_refl _, by
        show (if c = c then some 0 else none) = some 0
        exact if_pos rfl, fun g' hg' => by
        show (if g' = c then some 0 else none) = none
        exact if_neg hg'⟩
  unfold fX9_readingBy
  rw [h1]
  exact h2
theorem rv_neg {c : Nat} {W Z : Nat → Nat} (hZ : ∀ g, g < c → Z g ≤ 9) (m : Nat) : (rdg c W Z 12 0 m = none ∧ rv (rdg c W Z 12 0 m) < (0 : Int64)) ∨ ∃ v, rdg c W Z 12 0 m = some v ∧ rv (rdg c W Z 12 0 m) = lN v ∧ ¬ lN v < (0 : Int64) := by
  cases h : rdg c W Z 12 0 m with
  | none => exact Or.inl ⟨rfl, by show (-1 : Int64) < 0; decide⟩
  | some v =>
    have h12 := rdg_lt hZ 12 0 m v h
    have e12 : (10 : Nat) ^ 12 = 1000000000000 := rfl
    exact Or.inr ⟨v, rfl, rfl, lN_nn (by omega)⟩
theorem readings9_n {c : Nat} {W Z : Nat → Nat} (hc : c ≤ 12) {st gw : Nat → Int32} (hR : ∀ i, i < c → st i = nI (Z i) ∧ gw i = nI (W i) ∧ 1 ≤ Z i ∧ Z i ≤ 9 ∧ W i < 2) : fX9_readings (nI c) st gw = some (nI (Lay c W 12 0)) := by
  have hZ : ∀ g, g < c → Z g ≤ 9 := fun g hg => (hR g hg).2.2.2.1
  have hall : cnt (rdg c W Z 12 0) 4096 = Lay c W 12 0 := cnt_all 12 0
  unfold fX9_readings
  rw [show itr (fX9_readings_L4 (nI c) st gw) KF ((0 : Int32), (0 : Int32)) = some (nI (Lay c W 12 0)) from
    itr_to (fun n => (nI (cnt (rdg c W Z 12 0) n), nI n)) 4096 _ (fun n hn => by
      show fX9_readings_L4b (nI c) st gw (nI (cnt (rdg c W Z 12 0) n)) (nI n) = _
      unfold fX9_readings_L4b
      rw [if_pos (show nI n < (4096 : Int32) from nI_lt (b := 4096) hn (by decide)), readingBy_n hc hR hn]
      simp only [Option.bind_some]
      rcases rv_neg hZ n with ⟨q1, q2⟩ | ⟨v, q1, q2, q3⟩
      · rw [if_pos q2, nI_inc, show nI (cnt (rdg c W Z 12 0) n) + (0 : Int32) = nI (cnt (rdg c W Z 12 0) n) from Int32.add_zero _]
        simp only [cnt]
        rw [q1]
        rfl
      · rw [q2, if_neg q3, nI_inc, nI_inc, cnt_some q1]) (by
      show fX9_readings_L4b (nI c) st gw (nI (cnt (rdg c W Z 12 0) 4096)) (nI 4096) = _
      unfold fX9_readings_L4b
      rw [if_neg (show ¬ nI 4096 < (4096 : Int32) by decide), hall]) (KF_lt (by decide))]
  rfl
theorem reading9_a {c : Nat} {W Z : Nat → Nat} (hc : c ≤ 12) {st gw : Nat → Int32} (hR : ∀ i, i < c → st i = nI (Z i) ∧ gw i = nI (W i) ∧ 1 ≤ Z i ∧ Z i ≤ 9 ∧ W i < 2) {i : Nat} (hi : i < Lay c W 12 0) : fX9_reading (nI i) (nI c) st gw = some (lN (nth c W Z 12 0 i)) := by
  have hZ : ∀ g, g < c → Z g ≤ 9 := fun g hg => (hR g hg).2.2.2.1
  obtain ⟨m, hm, hv, hcnt⟩ := nth_ok (Z := Z) 12 0 i hi
  have hm' : m < 4096 := hm
  have hi' : i ≤ m := by rw [← hcnt]; exact cnt_le _ _
  obtain ⟨e, h1, h2⟩ := itr_ex (f := fX9_reading_L4 (nI i) (nI c) st gw)
    (fun k s => ∃ n, n ≤ m ∧ k = m - n ∧ s = (nI (cnt (rdg c W Z 12 0) n), nI n))
    (fun e => e = .inr (lN (nth c W Z 12 0 i)))
    (fun k s hI => by
      obtain ⟨n, hn, rfl, rfl⟩ := hI
      show (∃ e, fX9_reading_L4b (nI i) (nI c) st gw (nI (cnt (rdg c W Z 12 0) n)) (nI n) = some (.inr e) ∧ _) ∨ ∃ j s', j < m - n ∧ fX9_reading_L4b (nI i) (nI c) st gw (nI (cnt (rdg c W Z 12 0) n)) (nI n) = some (.inl s') ∧ _
      unfold fX9_reading_L4b
      rw [if_pos (show nI n < (4096 : Int32) from nI_lt (b := 4096) (by omega) (by decide)), readingBy_n hc hR (show n < 4096 by omega)]
      simp only [Option.bind_some]
      have hcn := cnt_le (rdg c W Z 12 0) n
      rcases Nat.lt_or_ge n m with hlt | hge
      · right
        rcases rv_neg hZ n with ⟨q1, q2⟩ | ⟨v, q1, q2, q3⟩
        · have e1 : cnt (rdg c W Z 12 0) (n + 1) = cnt (rdg c W Z 12 0) n := by
            simp only [cnt]
            rw [q1]
            rfl
          rw [if_pos q2, nI_inc]
          exact ⟨m - (n + 1), _, by omega, rfl, n + 1, by omega, rfl, by rw [e1]⟩
        · have e1 := cnt_some q1
          have e2 := cnt_mono (rdg c W Z 12 0) (show n + 1 ≤ m by omega)
          rw [q2, if_neg q3, if_neg (nI_ne (by omega) (by omega) (by omega)), nI_inc, nI_inc]
          exact ⟨m - (n + 1), _, by omega, rfl, n + 1, by omega, rfl, by rw [e1]⟩
      · left
        have : n = m := by omega
        subst this
        rw [hv, hcnt]
        have h12 := rdg_lt hZ 12 0 n _ hv
        have e12 : (10 : Nat) ^ 12 = 1000000000000 := rfl
        rw [if_neg (show ¬ rv (some (nth c W Z 12 0 i)) < (0 : Int64) from lN_nn (by omega)), if_pos rfl]
        exact ⟨_, rfl, rfl⟩) KF m ((0 : Int32), (0 : Int32)) (KF_lt (by omega)) ⟨0, by omega, rfl, rfl⟩
  unfold fX9_reading
  rw [h1, h2]
  rfl
theorem reading9_b {c : Nat} {W Z : Nat → Nat} (hc : c ≤ 12) {st gw : Nat → Int32} (hR : ∀ i, i < c → st i = nI (Z i) ∧ gw i = nI (W i) ∧ 1 ≤ Z i ∧ Z i ≤ 9 ∧ W i < 2) {p0 : Int32} (hp : ∀ i, i < Lay c W 12 0 → p0 ≠ nI i) : fX9_reading p0 (nI c) st gw = some (-1000000000000006 : Int64) := by
  have hZ : ∀ g, g < c → Z g ≤ 9 := fun g hg => (hR g hg).2.2.2.1
  have hall : cnt (rdg c W Z 12 0) 4096 = Lay c W 12 0 := cnt_all 12 0
  obtain ⟨e, h1, h2⟩ := itr_ex (f := fX9_reading_L4 p0 (nI c) st gw)
    (fun k s => ∃ n, n ≤ 4096 ∧ k = 4096 - n ∧ s = (nI (cnt (rdg c W Z 12 0) n), nI n))
    (fun e => e = .inl ())
    (fun k s hI => by
      obtain ⟨n, hn, rfl, rfl⟩ := hI
      show (∃ e, fX9_reading_L4b p0 (nI c) st gw (nI (cnt (rdg c W Z 12 0) n)) (nI n) = some (.inr e) ∧ _) ∨ ∃ j s', j < 4096 - n ∧ fX9_reading_L4b p0 (nI c) st gw (nI (cnt (rdg c W Z 12 0) n)) (nI n) = some (.inl s') ∧ _
      unfold fX9_reading_L4b
      rcases Nat.lt_or_ge n 4096 with hlt | hge
      · right
        rw [if_pos (show nI n < (4096 : Int32) from nI_lt (b := 4096) hlt (by decide)), readingBy_n hc hR hlt]
        simp only [Option.bind_some]
        rcases rv_neg hZ n with ⟨q1, q2⟩ | ⟨v, q1, q2, q3⟩
        · have e1 : cnt (rdg c W Z 12 0) (n + 1) = cnt (rdg c W Z 12 0) n := by
            simp only [cnt]
            rw [q1]
            rfl
          rw [if_pos q2, nI_inc]
          exact ⟨4096 - (n + 1), _, by omega, rfl, n + 1, by omega, rfl, by rw [e1]⟩
        · have e1 := cnt_some q1
          have e2 := cnt_mono (rdg c W Z 12 0) (show n + 1 ≤ 4096 by omega)
          rw [q2, if_neg q3, if_neg (fun q => hp _ (by omega) q.symm), nI_inc, nI_inc]
          exact ⟨4096 - (n + 1), _, by omega, rfl, n + 1, by omega, rfl, by rw [e1]⟩
      · left
        have : n = 4096 := by omega
        subst this
        rw [if_neg (show ¬ nI 4096 < (4096 : Int32) by decide)]
        exact ⟨_, rfl, rfl⟩) KF 4096 ((0 : Int32), (0 : Int32)) (KF_lt (by decide)) ⟨0, by omega, rfl, rfl⟩
  unfold fX9_reading
  rw [h1, h2]
  rfl
