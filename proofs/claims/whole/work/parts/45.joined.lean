/-! ===== joined, seek ===== -/
def AA (B : Nat → Nat) : Nat → Nat
  | 0 => 1
  | i + 1 => Nat.lcm (AA B i) (B i)
theorem AA_pos {B : Nat → Nat} {c : Nat} (hB : ∀ i, i < c → 2 ≤ B i ∧ B i ≤ 1000) : ∀ i, i ≤ c → 0 < AA B i ∧ AA B i ≤ 1000 ^ i := by
  intro i
  induction i with
  | zero => intro _; exact ⟨Nat.one_pos, Nat.le_refl _⟩
  | succ i ih =>
    intro hi
    obtain ⟨h1, h2⟩ := ih (by omega)
    obtain ⟨b1, b2⟩ := hB i (by omega)
    refine ⟨Nat.lcm_pos h1 (by omega), ?_⟩
    have h3 : Nat.lcm (AA B i) (B i) ≤ AA B i * B i := Nat.le_of_dvd (Nat.mul_pos h1 (by omega)) (Nat.lcm_dvd (Nat.dvd_mul_right _ _) (Nat.dvd_mul_left _ _))
    have h4 : AA B i * B i ≤ 1000 ^ i * 1000 := Nat.mul_le_mul h2 b2
    rw [Nat.pow_succ]
    exact Nat.le_trans h3 h4
theorem AA_gcd {B : Nat → Nat} {c : Nat} (hB : ∀ i, i < c → 2 ≤ B i ∧ B i ≤ 1000) (d x : Nat) : ∀ i, i ≤ c → (∀ j, j < i → Nat.gcd (B j) d ∣ x) → Nat.gcd (AA B i) d ∣ x := by
  intro i
  induction i with
  | zero => intro _ _; show Nat.gcd 1 d ∣ x; rw [Nat.gcd_one_left]; exact Nat.one_dvd _
  | succ i ih =>
    intro hi h
    exact gcd_lcm_dvd (ih (by omega) (fun j hj => h j (by omega))) (h i (by omega)) (AA_pos hB i (by omega)).1
theorem AA_dvd {B : Nat → Nat} : ∀ i j, j < i → B j ∣ AA B i := by
  intro i
  induction i with
  | zero => intro j hj; omega
  | succ i ih =>
    intro j hj
    rcases Nat.lt_or_ge j i with h | h
    · exact Nat.dvd_trans (ih j h) (Nat.dvd_lcm_left _ _)
    · have : j = i := by omega
      subst this
      exact Nat.dvd_lcm_right _ _
/-- two counts that agree are joined within as many tries as the second counts -/
theorem crt {v A b l : Nat} (hb : 0 < b) (hl : l < b) (h : (Nat.gcd A b : Int) ∣ ((l : Int) - v)) : ∃ t, t < b ∧ (v + t * A) % b = l := by
  obtain ⟨x, y, hxy⟩ := bezout A b
  obtain ⟨q, hq⟩ := h
  have hb' : (0 : Int) < b := by omega
  refine ⟨((x * q) % (b : Int)).toNat, ?_, ?_⟩
  · have h1 := Int.emod_lt_of_pos (x * q) hb'
    have h2 := Int.emod_nonneg (x * q) (by omega : (b : Int) ≠ 0)
    omega
  · have h2 := Int.emod_nonneg (x * q) (by omega : (b : Int) ≠ 0)
    have h3 : (((x * q) % (b : Int)).toNat : Int) = (x * q) % (b : Int) := Int.toNat_of_nonneg h2
    have h4 : (x * q) % (b : Int) = x * q - b * ((x * q) / b) := Int.emod_def _ _
    generalize (x * q) / (b : Int) = k at h4
    have h5 : ((v + ((x * q) % (b : Int)).toNat * A : Nat) : Int) = l + b * (-(q * y) - k * A) := by
      rw [Int.natCast_add, Int.natCast_mul, h3, h4]
      have e1 : (l : Int) = v + (Nat.gcd A b : Nat) * q := by omega
      rw [e1, ← hxy]
      grind
    have h6 : ((v + ((x * q) % (b : Int)).toNat * A : Nat) : Int) % b = l := by
      rw [h5, Int.add_mul_emod_self_left]
      exact Int.emod_eq_of_lt (by omega) (by omega)
    have h7 : (((v + ((x * q) % (b : Int)).toNat * A) % b : Nat) : Int) = l := by rw [Int.natCast_emod]; exact h6
    omega
theorem lcm_lN {A b : Nat} (hA : 0 < A) (hA2 : A < 2 ^ 63) (hb : 0 < b) (hb2 : b < 2 ^ 63) : fX5_greatestPart (lN A) (lN b) = some (lN (Nat.gcd A b)) ∧ fX9_common (lN A) (lN b) = some (lN (Nat.gcd A b)) ∧ ¬ lN (Nat.gcd A b) = 0 ∧ dvJ (lN A) (lN (Nat.gcd A b)) = some (lN (A / Nat.gcd A b)) ∧ lN (A / Nat.gcd A b) * lN b = lN (Nat.lcm A b) := by
  have hg0 : 0 < Nat.gcd A b := Nat.gcd_pos_of_pos_left _ hA
  have hg1 : Nat.gcd A b ≤ A := Nat.gcd_le_left _ hA
  have hne : ¬ lN (Nat.gcd A b) = 0 := fun q => by have := (lN_z (by omega)).mp q; omega
  refine ⟨?_, ?_, hne, ?_, ?_⟩
  · rw [gcd8 (by rw [lN_toInt' hA2]; omega) (by rw [lN_toInt' hb2]; omega), lN_toInt' hA2, lN_toInt' hb2]; rfl
  · rw [gcd9 (by rw [lN_toInt' hA2]; omega) (by rw [lN_toInt' hb2]; omega), lN_toInt' hA2, lN_toInt' hb2]; rfl
  · unfold dvJ; rw [if_neg hne, lN_div hA2 (by omega) hg0]
  · rw [lN_mul, Nat.div_mul_right_comm (Nat.gcd_dvd_left A b)]; rfl
theorem both_lN {A b : Nat} (hA : 0 < A) (hA2 : A < 2 ^ 63) (hb : 0 < b) (hb2 : b < 2 ^ 63) : fX2_bothGoInto (lN A) (lN b) = some (lN (Nat.lcm A b)) := by
  obtain ⟨h1, h2, h3, h4, h5⟩ := lcm_lN hA hA2 hb hb2
  unfold fX2_bothGoInto
  rw [h1]
  simp only [Option.bind_some]
  rw [if_neg h3, h4]
  simp only [Option.bind_some, h5]
theorem pow_le {i : Nat} (h : i ≤ 6) : 1000 ^ i ≤ 1000000000000000000 := by
  have : (1000 : Nat) ^ i ≤ 1000 ^ 6 := Nat.pow_le_pow_right (by decide) h
  exact this
theorem tries_both {b l mb ml : Nat → Int32} {i v A bi li : Nat} (p0 : Int32) (hi : i < 6) (hb : mb i = nI bi) (hl : l i = nI li) (hm : ml i = nI li) (h2 : 2 ≤ bi) (h3 : bi ≤ 1000) (h4 : li < bi) (hv : v < 1000 ^ i) (hA : A ≤ 1000 ^ i) (hd : (Nat.gcd A bi : Int) ∣ ((li : Int) - v)) : ∃ w t, itr (fX2_leastLeavingAll_L28 (lN A) (nI i) (lN bi) l) KF (lN v, (0 : Int32)) = some (.inr (lN w)) ∧ itr (fX9_joined_L42 p0 (lN A) (nI i) mb ml) KF (lN v) = some (lN w) ∧ w % bi = li ∧ w = v + t * A ∧ w < 1000 ^ (i + 1) := by
  obtain ⟨T, hT, hTe⟩ := crt (by omega) h4 hd
  have hp := pow_le (i := i + 1) (by omega)
  rw [Nat.pow_succ] at hp
  have bound : ∀ t, t < 1000 → v + t * A < 1000 ^ i * 1000 := by
    intro t ht
    have : t * A ≤ 999 * 1000 ^ i := Nat.mul_le_mul (by omega) hA
    omega
  obtain ⟨e, e', h5, h6, w, t, rfl, rfl, h7, h8, h9⟩ := itr_rel (f := fX2_leastLeavingAll_L28 (lN A) (nI i) (lN bi) l) (g := fX9_joined_L42 p0 (lN A) (nI i) mb ml)
    (fun m s t => ∃ k, k ≤ T ∧ m = T - k ∧ s = (lN (v + k * A), nI k) ∧ t = lN (v + k * A))
    (fun e e' => ∃ w t, e = .inr (lN w) ∧ e' = lN w ∧ w % bi = li ∧ w = v + t * A ∧ w < 1000 ^ i * 1000)
    (fun m s t hI => by
      obtain ⟨k, hk, rfl, rfl, rfl⟩ := hI
      show (∃ e e', fX2_leastLeavingAll_L28b (lN A) (nI i) (lN bi) l (lN (v + k * A)) (nI k) = some (.inr e) ∧ fX9_joined_L42b p0 (lN A) (nI i) mb ml (lN (v + k * A)) = some (.inr e') ∧ _) ∨ ∃ j' s' t', j' < T - k ∧ fX2_leastLeavingAll_L28b (lN A) (nI i) (lN bi) l (lN (v + k * A)) (nI k) = some (.inl s') ∧ fX9_joined_L42b p0 (lN A) (nI i) mb ml (lN (v + k * A)) = some (.inl t') ∧ _
      unfold fX2_leastLeavingAll_L28b fX9_joined_L42b
      have hbk := bound k (by omega)
      have hbne : ¬ lN bi = 0 := fun q => by have := (lN_z (by omega)).mp q; omega
      rw [if_pos (show nI k < (1000 : Int32) from nI_lt (b := 1000) (by omega) (by decide)), if_neg hbne, rdI_n (by omega) (by decide), left_n (by omega), rdI_n (by omega) (by decide), hb, hl, hm]
      simp only [Option.bind_some]
      rw [nI_l (by omega), nI_l (by omega)]
      unfold rmJ
      rw [if_neg hbne, lN_mod (by omega) (by omega)]
      simp only [Option.bind_some]
      have hlt : (v + k * A) % bi < bi := Nat.mod_lt _ (by omega)
      have hiff : lN ((v + k * A) % bi) = lN li ↔ (v + k * A) % bi = li := lN_eq (by omega) (by omega)
      by_cases q : (v + k * A) % bi = li
      · left
        rw [if_pos (hiff.mpr q), if_pos (hiff.mpr q)]
        exact ⟨_, _, rfl, rfl, _, k, rfl, rfl, q, rfl, hbk⟩
      · right
        rw [if_neg (fun z => q (hiff.mp z)), if_neg (fun z => q (hiff.mp z)), nI_inc, lN_add]
        have hkT : k ≠ T := fun z => q (by rw [z]; exact hTe)
        have e1 : v + k * A + A = v + (k + 1) * A := by rw [Nat.add_mul, Nat.one_mul]; omega
        rw [e1]
        exact ⟨T - (k + 1), _, _, by omega, rfl, rfl, k + 1, by omega, rfl, rfl, rfl⟩) KF T (lN v, (0 : Int32)) (lN v) (KF_lt (by omega)) ⟨0, by omega, rfl, by rw [Nat.zero_mul]; rfl, by rw [Nat.zero_mul]; rfl⟩
  exact ⟨w, t, h5, h6, h7, h8, by rw [Nat.pow_succ]; exact h9⟩
theorem joined_core {b l mb ml : Nat → Int32} {c : Nat} {B L : Nat → Nat} (p0 : Int32) (hc : c ≤ 6) (h3 : ∀ i, i < c → b i = nI (B i) ∧ mb i = nI (B i) ∧ l i = nI (L i) ∧ ml i = nI (L i) ∧ 2 ≤ B i ∧ B i ≤ 1000 ∧ L i < B i) (hcm : ∀ i, i < c → ∀ j, j < i → compat B L i j) : ∃ v : Int64, fX2_leastLeavingAll (nI c) b l = some v ∧ fX2_allGoInto (nI c) b = some (lN (AA B c)) ∧ itr (fX9_joined_L33 p0 (nI c) mb ml) KF ((0 : Int64), (1 : Int64), (0 : Int32)) = some (v, lN (AA B c)) := by
  have hB : ∀ i, i < c → 2 ≤ B i ∧ B i ≤ 1000 := fun i hi => ⟨(h3 i hi).2.2.2.2.1, (h3 i hi).2.2.2.2.2.1⟩
  obtain ⟨e, e', h1, h2, h4⟩ := itr_rel (f := fX2_leastLeavingAll_L7 (nI c) b l) (g := fX9_joined_L33 p0 (nI c) mb ml)
    (fun m s t => ∃ i v, i ≤ c ∧ m = c - i ∧ s = (lN v, lN (AA B i), nI i) ∧ t = (lN v, lN (AA B i), nI i) ∧ v < 1000 ^ i ∧ ∀ j, j < i → v % B j = L j)
    (fun e e' => e' = (e, lN (AA B c)))
    (fun m s t hI => by
      obtain ⟨i, v, hi, rfl, rfl, rfl, hv, hall⟩ := hI
      show (∃ e e', fX2_leastLeavingAll_L7b (nI c) b l (lN v) (lN (AA B i)) (nI i) = some (.inr e) ∧ fX9_joined_L33b p0 (nI c) mb ml (lN v) (lN (AA B i)) (nI i) = some (.inr e') ∧ _) ∨ ∃ j' s' t', j' < c - i ∧ fX2_leastLeavingAll_L7b (nI c) b l (lN v) (lN (AA B i)) (nI i) = some (.inl s') ∧ fX9_joined_L33b p0 (nI c) mb ml (lN v) (lN (AA B i)) (nI i) = some (.inl t') ∧ _
      unfold fX2_leastLeavingAll_L7b fX9_joined_L33b
      rcases Nat.lt_or_ge i c with hlt | hge
      · right
        obtain ⟨b1, b2, b3, b4, b5, b6, b7⟩ := h3 i hlt
        obtain ⟨a1, a2⟩ := AA_pos hB i (by omega)
        have hp := pow_le (i := i) (by omega)
        have hd : (Nat.gcd (AA B i) (B i) : Int) ∣ ((L i : Int) - v) := by
          have k1 : Nat.gcd (AA B i) (B i) ∣ ((L i : Int) - v).natAbs := by
            apply AA_gcd hB (B i) _ i (by omega)
            intro j hj
            have k2 := hcm i hlt j hj
            unfold compat at k2
            have k3 : (Nat.gcd (B j) (B i) : Int) ∣ ((L j : Int) - v) := by
              have k4 : (B j : Int) ∣ ((L j : Int) - v) := by
                have k5 := hall j hj
                have k6 := Nat.div_add_mod v (B j)
                refine ⟨-((v / B j : Nat) : Int), ?_⟩
                have k7 : (v : Int) = (B j : Int) * ((v / B j : Nat) : Int) + (L j : Int) := by rw [← Int.natCast_mul, ← k5, ← Int.natCast_add, k6]
                rw [Int.mul_neg]
                omega
              exact Int.dvd_trans (Int.natCast_dvd_natCast.mpr (Nat.gcd_dvd_left _ _)) k4
            have k8 : (Nat.gcd (B j) (B i) : Int) ∣ ((L i : Int) - v) := by
              have e1 : ((L i : Int) - v) = ((L i : Int) - L j) + ((L j : Int) - v) := by omega
              rw [e1]
              apply Int.dvd_add _ k3
              rw [Nat.gcd_comm]
              exact k2
            have k9 := Int.natAbs_dvd_natAbs.mpr k8
            rw [Int.natAbs_natCast] at k9
            exact k9
          exact Int.natAbs_dvd_natAbs.mp (by rw [Int.natAbs_natCast]; exact k1)
        obtain ⟨w, t, g1, g2, g3, g4, g5⟩ := tries_both p0 (b := b) (by omega) b2 b3 b4 b5 b6 b7 hv a2 hd
        rw [if_pos (nI_lt hlt (by omega)), if_pos (nI_lt hlt (by omega)), by_n (by omega), b1]
        simp only [Option.bind_some]
        rw [nI_l (by omega), g1, g2, rdI_n (by omega) (by decide), b2]
        simp only [Option.bind_some, Sum.elim_inr]
        obtain ⟨q1, q2, q3, q4, q5⟩ := lcm_lN a1 (by omega) (show 0 < B i by omega) (by omega)
        rw [both_lN a1 (by omega) (by omega) (by omega), nI_l (by omega), q2]
        simp only [Option.bind_some]
        rw [q4]
        simp only [Option.bind_some]
        rw [q5, nI_inc]
        refine ⟨c - (i + 1), _, _, by omega, rfl, rfl, i + 1, w, by omega, rfl, rfl, rfl, g5, fun j hj => ?_⟩
        rcases Nat.lt_or_ge j i with z | z
        · rw [g4, ← hall j z]
          obtain ⟨y, hy⟩ := AA_dvd (B := B) i j z
          rw [hy, Nat.mul_left_comm, Nat.add_mul_mod_self_left]
        · have : j = i := by omega
          subst this
          exact g3
      · left
        have : i = c := by omega
        subst this
        rw [if_neg (nI_nlt (Nat.le_refl _) (by omega)), if_neg (nI_nlt (Nat.le_refl _) (by omega))]
        exact ⟨_, _, rfl, rfl, rfl⟩) KF c ((0 : Int64), (1 : Int64), (0 : Int32)) ((0 : Int64), (1 : Int64), (0 : Int32)) (KF_lt (by omega)) ⟨0, 0, by omega, rfl, rfl, rfl, by decide, fun j hj => absurd hj (by omega)⟩
  refine ⟨e, ?_, ?_, ?_⟩
  · unfold fX2_leastLeavingAll
    rw [h1]; rfl
  · unfold fX2_allGoInto
    rw [show itr (fX2_allGoInto_L4 (nI c) b) KF ((1 : Int64), (0 : Int32)) = some (lN (AA B c)) from
      itr_to (fun i => (lN (AA B i), nI i)) c _ (fun i hi => by
        show fX2_allGoInto_L4b (nI c) b (lN (AA B i)) (nI i) = _
        obtain ⟨b1, b2, b3, b4, b5, b6, b7⟩ := h3 i hi
        obtain ⟨a1, a2⟩ := AA_pos hB i (by omega)
        have hp := pow_le (i := i) (by omega)
        unfold fX2_allGoInto_L4b
        rw [if_pos (nI_lt hi (by omega)), by_n (by omega), b1]
        simp only [Option.bind_some]
        rw [nI_l (by omega), both_lN a1 (by omega) (by omega) (by omega)]
        simp only [Option.bind_some, nI_inc]
        rfl) (by
        show fX2_allGoInto_L4b (nI c) b (lN (AA B c)) (nI c) = _
        unfold fX2_allGoInto_L4b
        rw [if_neg (nI_nlt (Nat.le_refl _) (by omega))]) (KF_lt (by omega))]
    rfl
  · rw [h2, h4]
theorem G_joined (p0 : Int32) {z b l mc mb ml} (h : RE z b l mc mb ml) : ∃ r : Int64, fX8_joined p0 z b l = some r ∧ fX9_joined p0 mc mb ml = some r := by
  obtain ⟨c, B, L, hc, e1, e2, h3⟩ := h
  obtain ⟨r, h1, h2, h4⟩ := clash_both hc e1 e2 h3
  unfold fX8_joined fX9_joined
  rcases rng p0 2 (by decide) with ⟨k, hk, rfl⟩ | q
  · rw [if_neg (nI_not_neg (by omega)), if_neg (lt1n (by omega)), in9_y (by rw [nI_64 (by omega)]; exact Int.natCast_nonneg _) (by rw [nI_64 (by omega)]; show (k : Int) ≤ 1; omega), h1, h2]
    simp only [Option.bind_some, i10]
    rcases h4 with ⟨rfl, hcm⟩ | ⟨j, hj, rfl⟩
    · obtain ⟨v, g1, g2, g3⟩ := joined_core (nI k) hc h3 hcm
      rw [if_pos rfl, if_pos (show (-6 : Int32) < 0 by decide), e1, e2, g1, g2, g3]
      simp only [bn2, Option.bind_some]
      by_cases q : nI k = 0
      · rw [if_pos q]; exact ⟨_, rfl, rfl⟩
      · rw [if_neg q]; exact ⟨_, rfl, rfl⟩
    · rw [if_neg (fun z => by
        have z1 := congrArg Int32.toInt z
        rw [nI_toInt (by omega)] at z1
        have : (-6 : Int32).toInt = -6 := by decide
        omega), if_neg (nI_not_neg (by omega))]
      exact ⟨_, rfl, rfl⟩
  · rw [in9_no (by rw [t32_to64]; show ¬ (0 ≤ p0.toInt ∧ p0.toInt ≤ 1); omega)]
    refine ⟨_, ?_, rfl⟩
    by_cases q1 : p0 < 0
    · rw [if_pos q1]
    · rw [if_neg q1, if_pos]
      rw [Int32.lt_iff_toInt_lt] at q1 ⊢
      have : ¬ p0.toInt < 0 := q1
      show 1 < p0.toInt
      omega
