/-! ===== clearing: one turn both ways ===== -/
theorem cell5 {f : Nat → Int64} {j i : Nat} (h : 5 * j + i < 25) : fX0_cell (nI j) (nI i) f = some (f (5 * j + i)) := by
  unfold fX0_cell
  rw [ix5, if_neg (nI_not_neg (by omega)), if_pos (lt25 h), rdJ_n h (by decide)]
  rfl
theorem put5 {f : Nat → Int64} {j i : Nat} (v : Int64) (h : 5 * j + i < 25) : fX0_put (nI j) (nI i) v f = some (vp_updL f (5 * j + i) v) := by
  unfold fX0_put
  rw [ix5, if_neg (nI_not_neg (by omega)), if_pos (lt25 h), wrJ_n v h (by decide)]
  rfl
/-- column j of the numbers -/
def rw5 (X : Nat → Int64) (j : Nat) (i : Nat) : Int := (X (5 * j + i)).toInt
def GG (w : Nat → Int) : Nat → Nat
  | 0 => 0
  | i + 1 => Nat.gcd (GG w i) (w i).natAbs
theorem GG_dvd (w : Nat → Int) : ∀ q i, i < q → GG w q ∣ (w i).natAbs := by
  intro q
  induction q with
  | zero => intro i hi; omega
  | succ q ih =>
    intro i hi
    simp only [GG]
    by_cases e : i = q
    · subst e; exact Nat.gcd_dvd_right _ _
    · exact Nat.dvd_trans (Nat.gcd_dvd_left _ _) (ih i (by omega))
theorem GG_great (w : Nat → Int) {d : Nat} : ∀ q, (∀ i, i < q → d ∣ (w i).natAbs) → d ∣ GG w q := by
  intro q
  induction q with
  | zero => intro _; exact Nat.dvd_zero _
  | succ q ih =>
    intro h
    simp only [GG]
    exact Nat.dvd_gcd (ih (fun i hi => h i (by omega))) (h q (by omega))
theorem gcd_lt {a b m : Nat} (ha : a < m) (hb : b < m) : Nat.gcd a b < m := by
  rcases Nat.eq_zero_or_pos a with e | e
  · rw [e, Nat.gcd_zero_left]; exact hb
  · exact Nat.lt_of_le_of_lt (Nat.gcd_le_left _ e) ha
theorem turn_a {n j t : Nat} (hn : n ≤ 4) (hj : j < 5) (ht : t < 5) (hjt : j ≠ t) {X M : Nat → Int64} (hXM : ∀ q, q < 25 → M q = X q) (here there : Int64) (w : Nat → Int) (hw : ∀ i, i ≤ n → w i = rw5 X j i * there.toInt - rw5 X t i * here.toInt) (hB : ∀ i, i ≤ n → (rw5 X j i * there.toInt).natAbs + (rw5 X t i * here.toInt).natAbs < 9223372036854775808) : ∃ X' M', itr (fX0_turn_L24 (nI j) here there (nI n) (nI t)) KF ((0 : Int64), (0 : Int32), X) = some (lN (GG w (n + 1)), X') ∧ itr (fX9_turn_L30 (nI j) (nI t) here there (nI n)) KF ((0 : Int64), (0 : Int32), M) = some (lN (GG w (n + 1)), M') ∧ (∀ q, q < 25 → M' q = X' q) ∧ (∀ i, i ≤ n → rw5 X' j i = w i) ∧ (∀ q, q < 25 → (∀ i, i ≤ n → q ≠ 5 * j + i) → X' q = X q) ∧ GG w (n + 1) < 9223372036854775808 := by
  obtain ⟨e, e', h1, h2, h3⟩ := itr_rel (f := fX0_turn_L24 (nI j) here there (nI n) (nI t)) (g := fX9_turn_L30 (nI j) (nI t) here there (nI n))
    (fun m s r => ∃ q X' M', q ≤ n + 1 ∧ m = n + 1 - q ∧ s = (lN (GG w q), nI q, X') ∧ r = (lN (GG w q), nI q, M') ∧ (∀ p, p < 25 → M' p = X' p) ∧ (∀ i, i < q → rw5 X' j i = w i) ∧ (∀ p, p < 25 → (∀ i, i < q → p ≠ 5 * j + i) → X' p = X p) ∧ GG w q < 9223372036854775808)
    (fun e e' => ∃ X' M', e = (lN (GG w (n + 1)), X') ∧ e' = (lN (GG w (n + 1)), M') ∧ (∀ p, p < 25 → M' p = X' p) ∧ (∀ i, i ≤ n → rw5 X' j i = w i) ∧ (∀ p, p < 25 → (∀ i, i ≤ n → p ≠ 5 * j + i) → X' p = X p) ∧ GG w (n + 1) < 9223372036854775808)
    (fun m s r hI => by
      obtain ⟨q, X', M', hq, rfl, rfl, rfl, hXM', hdone, hrest, hG⟩ := hI
      show (∃ e e', fX0_turn_L24b (nI j) here there (nI n) (nI t) (lN (GG w q)) (nI q) X' = some (.inr e) ∧ fX9_turn_L30b (nI j) (nI t) here there (nI n) (lN (GG w q)) (nI q) M' = some (.inr e') ∧ _) ∨ ∃ m' s' r', m' < n + 1 - q ∧ fX0_turn_L24b (nI j) here there (nI n) (nI t) (lN (GG w q)) (nI q) X' = some (.inl s') ∧ fX9_turn_L30b (nI j) (nI t) here there (nI n) (lN (GG w q)) (nI q) M' = some (.inl r') ∧ _
      unfold fX0_turn_L24b fX9_turn_L30b
      rcases Nat.lt_or_ge n q with hlt | hge
      · left
        have : q = n + 1 := by omega
        subst this
        rw [if_pos (nI_lt hlt (by omega)), if_pos (nI_lt hlt (by omega))]
        exact ⟨_, _, rfl, rfl, X', M', rfl, rfl, hXM', fun i hi => hdone i (by omega), fun p hp h => hrest p hp (fun i hi => h i (by omega)), hG⟩
      · right
        have hcj : X' (5 * j + q) = X (5 * j + q) := hrest _ (by omega) (fun i hi => by omega)
        have hct : X' (5 * t + q) = X (5 * t + q) := hrest _ (by omega) (fun i hi => by omega)
        rw [if_neg (nI_nlt hge (by omega)), if_neg (nI_nlt hge (by omega)), cell5 (by omega), cell5 (by omega), ix5', ix5', rdJ_n (by omega) (by decide), rdJ_n (by omega) (by decide), hXM' _ (by omega), hXM' _ (by omega), hcj, hct]
        simp only [Option.bind_some]
        rw [put5 _ (by omega), wrJ_n _ (by omega) (by decide)]
        simp only [Option.bind_some]
        rw [cell5 (by omega), rdJ_n (by omega) (by decide), updL_at, updL_at]
        simp only [Option.bind_some]
        obtain ⟨Z, hZ⟩ : ∃ Z, Z = X (5 * j + q) * there - X (5 * t + q) * here := ⟨_, rfl⟩
        have hb := hB q hge
        have hwq := hw q hge
        have hZw : Z.toInt = w q := by
          unfold rw5 at hb hwq
          rw [hZ, hwq, t64_sub] <;> rw [t64_mul (by omega) (by omega), t64_mul (by omega) (by omega)] <;> omega
        have hwb : (w q).natAbs < 9223372036854775808 := by rw [hwq]; omega
        rw [← hZ]
        have hGt : (lN (GG w q)).toInt = ((GG w q : Nat) : Int) := lN_toInt' hG
        have hgcd : Nat.gcd (lN (GG w q)).toInt.natAbs Z.toInt.natAbs = GG w (q + 1) := by
          rw [hGt, hZw, Int.natAbs_natCast]
          rfl
        rw [gcd8 (by rw [hGt]; omega) (by rw [hZw]; omega), gcd9 (by rw [hGt]; omega) (by rw [hZw]; omega), hgcd]
        simp only [Option.bind_some, nI_inc]
        refine ⟨n + 1 - (q + 1), _, _, by omega, rfl, rfl, q + 1, _, _, by omega, rfl, rfl, rfl, fun p hp => ?_, fun i hi => ?_, fun p hp h => ?_, ?_⟩
        · by_cases e : p = 5 * j + q
          · subst e; rw [updL_at, updL_at]
          · rw [updL_ne e, updL_ne e]; exact hXM' p hp
        · unfold rw5
          by_cases e : i = q
          · subst e; rw [updL_at]; exact hZw
          · rw [updL_ne (by omega)]; exact hdone i (by omega)
        · rw [updL_ne (h q (by omega))]
          exact hrest p hp (fun i hi => h i (by omega))
        · exact gcd_lt hG hwb) KF (n + 1) ((0 : Int64), (0 : Int32), X) ((0 : Int64), (0 : Int32), M) (KF_lt (by omega)) ⟨0, X, M, by omega, rfl, rfl, rfl, hXM, fun i hi => absurd hi (by omega), fun _ _ _ => rfl, (show (0 : Nat) < 9223372036854775808 by decide)⟩
  obtain ⟨X', M', rfl, rfl, h3⟩ := h3
  exact ⟨X', M', h1, h2, h3⟩
theorem turn_b0 {n j : Nat} (hn : n ≤ 4) (X M : Nat → Int64) : itr (fX0_turn_L86 (nI j) (0 : Int64) (nI n)) KF ((0 : Int32), X) = some X ∧ itr (fX9_turn_L106 (nI j) (0 : Int64) (nI n)) KF ((0 : Int32), M) = some M := by
  constructor
  · exact itr_to (fun i => (nI i, X)) (n + 1) _ (fun i hi => by
      show fX0_turn_L86b (nI j) (0 : Int64) (nI n) (nI i) X = _
      unfold fX0_turn_L86b
      rw [if_neg (nI_nlt (by omega) (by omega)), if_pos rfl, nI_inc]) (by
      show fX0_turn_L86b (nI j) (0 : Int64) (nI n) (nI (n + 1)) X = _
      unfold fX0_turn_L86b
      rw [if_pos (nI_lt (by omega) (by omega))]) (KF_lt (by omega))
  · exact itr_to (fun _ => ((0 : Int32), M)) 0 _ (fun i hi => absurd hi (by omega)) (by
      show fX9_turn_L106b (nI j) (0 : Int64) (nI n) (nI 0) M = _
      unfold fX9_turn_L106b
      rw [if_neg (nI_nlt (by omega) (by omega)), if_neg (by decide)]) (KF_lt (by decide))
theorem turn_b1 {n j g : Nat} (hn : n ≤ 4) (hj : j < 5) (hg0 : 0 < g) (hg : g < 9223372036854775808) {X M : Nat → Int64} (hXM : ∀ q, q < 25 → M q = X q) (hB : ∀ i, i ≤ n → (rw5 X j i).natAbs < 9223372036854775808) : ∃ X' M', itr (fX0_turn_L86 (nI j) (lN g) (nI n)) KF ((0 : Int32), X) = some X' ∧ itr (fX9_turn_L106 (nI j) (lN g) (nI n)) KF ((0 : Int32), M) = some M' ∧ (∀ q, q < 25 → M' q = X' q) ∧ (∀ i, i ≤ n → rw5 X' j i = (rw5 X j i).tdiv g) ∧ ∀ q, q < 25 → (∀ i, i ≤ n → q ≠ 5 * j + i) → X' q = X q := by
  have hgz : ¬ lN g = (0 : Int64) := fun e => by
    have := (lN_z hg).mp e
    omega
  have hgp : (0 : Int64) < lN g := by
    rw [show (0 : Int64) = lN 0 from rfl]
    exact (lN_ltI (by decide) hg).mpr hg0
  have hgt : (lN g).toInt = (g : Int) := lN_toInt' hg
  obtain ⟨e, e', h1, h2, h3⟩ := itr_rel (f := fX0_turn_L86 (nI j) (lN g) (nI n)) (g := fX9_turn_L106 (nI j) (lN g) (nI n))
    (fun m s r => ∃ q X' M', q ≤ n + 1 ∧ m = n + 1 - q ∧ s = (nI q, X') ∧ r = (nI q, M') ∧ (∀ p, p < 25 → M' p = X' p) ∧ (∀ i, i < q → rw5 X' j i = (rw5 X j i).tdiv g) ∧ ∀ p, p < 25 → (∀ i, i < q → p ≠ 5 * j + i) → X' p = X p)
    (fun e e' => (∀ p, p < 25 → e' p = e p) ∧ (∀ i, i ≤ n → rw5 e j i = (rw5 X j i).tdiv g) ∧ ∀ p, p < 25 → (∀ i, i ≤ n → p ≠ 5 * j + i) → e p = X p)
    (fun m s r hI => by
      obtain ⟨q, X', M', hq, rfl, rfl, rfl, hXM', hdone, hrest⟩ := hI
      show (∃ e e', fX0_turn_L86b (nI j) (lN g) (nI n) (nI q) X' = some (.inr e) ∧ fX9_turn_L106b (nI j) (lN g) (nI n) (nI q) M' = some (.inr e') ∧ _) ∨ ∃ m' s' r', m' < n + 1 - q ∧ fX0_turn_L86b (nI j) (lN g) (nI n) (nI q) X' = some (.inl s') ∧ fX9_turn_L106b (nI j) (lN g) (nI n) (nI q) M' = some (.inl r') ∧ _
      unfold fX0_turn_L86b fX9_turn_L106b
      rcases Nat.lt_or_ge n q with hlt | hge
      · left
        rw [if_pos (nI_lt hlt (by omega)), if_pos (nI_lt hlt (by omega))]
        exact ⟨_, _, rfl, rfl, hXM', fun i hi => hdone i (by omega), fun p hp h => hrest p hp (fun i hi => h i (by omega))⟩
      · right
        have hcj : X' (5 * j + q) = X (5 * j + q) := hrest _ (by omega) (fun i hi => by omega)
        rw [if_neg (nI_nlt hge (by omega)), if_neg (nI_nlt hge (by omega)), if_neg hgz, if_pos hgp, cell5 (by omega), ix5', rdJ_n (by omega) (by decide), hXM' _ (by omega), hcj]
        simp only [Option.bind_some]
        have hd : dvJ (X (5 * j + q)) (lN g) = some (X (5 * j + q) / lN g) := by unfold dvJ; rw [if_neg hgz]
        have hb := hB q hge
        have hle := Int.natAbs_tdiv_le_natAbs (rw5 X j q) (g : Int)
        have hv : (X (5 * j + q) / lN g).toInt = (rw5 X j q).tdiv g := by
          rw [Int64.toInt_div, hgt]
          show ((rw5 X j q).tdiv g).bmod _ = _
          apply Int.bmod_eq_of_le <;> omega
        rw [hd]
        simp only [Option.bind_some]
        rw [put5 _ (by omega), wrJ_n _ (by omega) (by decide)]
        simp only [Option.bind_some, nI_inc]
        refine ⟨n + 1 - (q + 1), _, _, by omega, rfl, rfl, q + 1, _, _, by omega, rfl, rfl, rfl, fun p hp => ?_, fun i hi => ?_, fun p hp h => ?_⟩
        · by_cases e : p = 5 * j + q
          · subst e; rw [updL_at, updL_at]
          · rw [updL_ne e, updL_ne e]; exact hXM' p hp
        · by_cases e : i = q
          · subst e
            show (vp_updL X' (5 * j + i) _ (5 * j + i)).toInt = _
            rw [updL_at]
            exact hv
          · show (vp_updL X' (5 * j + q) _ (5 * j + i)).toInt = _
            rw [updL_ne (by omega)]
            exact hdone i (by omega)
        · rw [updL_ne (h q (by omega))]
          exact hrest p hp (fun i hi => h i (by omega))) KF (n + 1) ((0 : Int32), X) ((0 : Int32), M) (KF_lt (by omega)) ⟨0, X, M, by omega, rfl, rfl, rfl, hXM, fun i hi => absurd hi (by omega), fun _ _ _ => rfl⟩
  exact ⟨e, e', h1, h2, h3⟩
theorem turn_n {n j t k : Nat} (hn : n ≤ 4) (hk : k ≤ n) (hj : j < 5) (ht : t < 5) (hjt : j ≠ t) {X M : Nat → Int64} (hXM : ∀ q, q < 25 → M q = X q) (tk : Int32) (hB : ∀ i, i ≤ n → (rw5 X j i * rw5 X t k).natAbs + (rw5 X t i * rw5 X j k).natAbs < 9223372036854775808) : ∃ (g : Nat) (X' M' : Nat → Int64), fX0_turn (nI j) (nI k) (nI n) tk (nI t) X = some (tk + 1, X') ∧ fX9_turn (nI j) (nI t) (nI k) (nI n) tk M = some (tk + 1, M') ∧ (∀ q, q < 25 → M' q = X' q) ∧ (∀ i, i ≤ n → (g : Int) * rw5 X' j i = rw5 X j i * rw5 X t k - rw5 X t i * rw5 X j k) ∧ (g = 0 → ∀ i, i ≤ n → rw5 X' j i = 0) ∧ (g ≠ 0 → Prim n (rw5 X' j)) ∧ ∀ q, q < 25 → (∀ i, i ≤ n → q ≠ 5 * j + i) → X' q = X q := by
  obtain ⟨w, hw⟩ : ∃ w : Nat → Int, w = fun i => rw5 X j i * rw5 X t k - rw5 X t i * rw5 X j k := ⟨_, rfl⟩
  have hwi : ∀ i, w i = rw5 X j i * rw5 X t k - rw5 X t i * rw5 X j k := fun i => by rw [hw]
  obtain ⟨X1, M1, a1, a2, a3, a4, a5, a6⟩ := turn_a hn hj ht hjt hXM (X (5 * j + k)) (X (5 * t + k)) w (fun i _ => hwi i) hB
  obtain ⟨g, hg⟩ : ∃ g, g = GG w (n + 1) := ⟨_, rfl⟩
  have hdv : ∀ i, i ≤ n → (g : Int) ∣ w i := fun i hi => by
    rw [Int.ofNat_dvd_left, hg]
    exact GG_dvd w (n + 1) i (by omega)
  rw [← hg] at a1 a2 a6
  unfold fX0_turn fX9_turn
  rw [cell5 (by omega), cell5 (by omega), ix5', ix5', rdJ_n (by omega) (by decide), rdJ_n (by omega) (by decide), hXM _ (by omega), hXM _ (by omega)]
  simp only [Option.bind_some]
  rw [a1, a2]
  simp only [bn2, Option.bind_some]
  rcases Nat.eq_zero_or_pos g with g0 | g0
  · subst g0
    obtain ⟨b1, b2⟩ := turn_b0 (j := j) hn X1 M1
    have hwz : ∀ i, i ≤ n → w i = 0 := fun i hi => by
      have := hdv i hi
      rw [Int.natCast_zero] at this
      exact Int.zero_dvd.mp this
    rw [show lN 0 = (0 : Int64) from rfl, b1, b2]
    refine ⟨0, X1, M1, rfl, rfl, a3, fun i hi => ?_, fun _ i hi => by rw [a4 i hi, hwz i hi], fun e => absurd rfl e, a5⟩
    rw [← hwi i, hwz i hi, Int.natCast_zero, Int.zero_mul]
  · obtain ⟨X2, M2, b1, b2, b3, b4, b5⟩ := turn_b1 hn hj g0 a6 a3 (fun i hi => by
      have := hB i hi
      rw [a4 i hi, hwi i]
      omega)
    rw [b1, b2]
    have hmul : ∀ i, i ≤ n → (g : Int) * rw5 X2 j i = w i := fun i hi => by
      rw [b4 i hi, a4 i hi]
      exact Int.mul_tdiv_cancel' (hdv i hi)
    refine ⟨g, X2, M2, rfl, rfl, b3, fun i hi => by rw [hmul i hi, hwi i], fun e => absurd e (by omega), fun _ d hd => ?_, fun q hq h => by rw [b5 q hq h, a5 q hq h]⟩
    have h1 : g * d ∣ GG w (n + 1) := GG_great w (n + 1) (fun i hi => by
      have h2 := hd i (by omega)
      rw [Int.ofNat_dvd_left] at h2
      rw [← hmul i (by omega), Int.natAbs_mul, Int.natAbs_natCast]
      exact Nat.mul_dvd_mul_left _ h2)
    rw [← hg] at h1
    have h3 : g * d ∣ g * 1 := by rw [Nat.mul_one]; exact h1
    exact Nat.dvd_one.mp (Nat.dvd_of_mul_dvd_mul_left g0 h3)
