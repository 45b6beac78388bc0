/-! ===== unknowns, set ===== -/
def RD (Xn Xm : Int32) (Xg : Nat → Int32) (Mn Mm : Int32) (Mt : Nat → Int32) : Prop := ∃ n m : Nat, 1 ≤ n ∧ n ≤ 4 ∧ 1 ≤ m ∧ m ≤ 5 ∧ Xn = nI n ∧ Xm = nI m ∧ Mn = nI n ∧ Mm = nI m ∧ (∀ k, k < 25 → Mt k = Xg k) ∧ ∀ j, j < 5 → (∀ k, k < n → (Xg (5 * j + k)).toInt.natAbs ≤ 50) ∧ (Xg (5 * j + n)).toInt.natAbs ≤ 9999
theorem begin_loop (g : Nat → Int32) : ∃ e, itr (fX0_begin_L12) KF ((0 : Int32), g) = some e ∧ ∀ k, k < 25 → e k = 0 :=
  itr_ex (f := fX0_begin_L12) (fun m s => ∃ j, j ≤ 25 ∧ m = 25 - j ∧ s.1 = nI j ∧ ∀ k, k < j → s.2 k = 0) (fun e => ∀ k, k < 25 → e k = 0) (fun m s hI => by
    obtain ⟨x, g⟩ := s
    obtain ⟨j, hj, rfl, hx, hg⟩ := hI
    dsimp only at hx hg
    subst hx
    show (∃ e, fX0_begin_L12b (nI j) g = some (.inr e) ∧ _) ∨ ∃ j' s', j' < 25 - j ∧ fX0_begin_L12b (nI j) g = some (.inl s') ∧ _
    unfold fX0_begin_L12b
    rcases Nat.lt_or_ge j 25 with h | h
    · right
      rw [if_pos (show nI j < (25 : Int32) from nI_lt (b := 25) h (by decide)), wrI_n _ h (by decide)]
      simp only [Option.bind_some, nI_inc]
      refine ⟨25 - (j + 1), _, by omega, rfl, j + 1, by omega, rfl, rfl, fun k hk => ?_⟩
      by_cases e : k = j
      · subst e; exact upd_at _ _ _
      · show upd g j 0 k = 0
        rw [upd_ne e]; exact hg k (by omega)
    · left
      have : j = 25 := by omega
      subst this
      rw [if_neg (by decide)]
      exact ⟨_, rfl, hg⟩) KF 25 ((0 : Int32), g) (KF_lt (by decide)) ⟨0, by omega, rfl, rfl, fun k hk => absurd hk (by omega)⟩
theorem unk9_loop (g : Nat → Int32) : ∃ e, itr (fX9_unknowns_L39) KF ((0 : Int32), g) = some e ∧ ∀ k, k < 25 → e k = 0 :=
  itr_ex (f := fX9_unknowns_L39) (fun m s => ∃ j, j ≤ 25 ∧ m = 25 - j ∧ s.1 = nI j ∧ ∀ k, k < j → s.2 k = 0) (fun e => ∀ k, k < 25 → e k = 0) (fun m s hI => by
    obtain ⟨x, g⟩ := s
    obtain ⟨j, hj, rfl, hx, hg⟩ := hI
    dsimp only at hx hg
    subst hx
    show (∃ e, fX9_unknowns_L39b (nI j) g = some (.inr e) ∧ _) ∨ ∃ j' s', j' < 25 - j ∧ fX9_unknowns_L39b (nI j) g = some (.inl s') ∧ _
    unfold fX9_unknowns_L39b
    rcases Nat.lt_or_ge j 25 with h | h
    · right
      rw [if_pos (show nI j < (25 : Int32) from nI_lt (b := 25) h (by decide)), wrI_n _ h (by decide)]
      simp only [Option.bind_some, nI_inc]
      refine ⟨25 - (j + 1), _, by omega, rfl, j + 1, by omega, rfl, rfl, fun k hk => ?_⟩
      by_cases e : k = j
      · subst e; exact upd_at _ _ _
      · show upd g j 0 k = 0
        rw [upd_ne e]; exact hg k (by omega)
    · left
      have : j = 25 := by omega
      subst this
      rw [if_neg (by decide)]
      exact ⟨_, rfl, hg⟩) KF 25 ((0 : Int32), g) (KF_lt (by decide)) ⟨0, by omega, rfl, rfl, fun k hk => absurd hk (by omega)⟩
theorem begin_n (p q n m : Int32) (g : Nat → Int32) : ∃ e, fX0_begin p q n m g = some (p, q, e) ∧ ∀ k, k < 25 → e k = 0 := by
  obtain ⟨e, h1, h2⟩ := begin_loop g
  refine ⟨e, ?_, h2⟩
  unfold fX0_begin
  rw [h1]; rfl
theorem G_unknowns (p0 p1 : Int32) {n m g un col tl} (h : RD n m g un col tl) : ∃ (r o1 o2 : Int32) (o3 : Nat → Int32) (q1 q2 : Int32) (q3 : Nat → Int32), fX8_unknowns p0 p1 n m g = some (r, o1, o2, o3) ∧ fX9_unknowns p0 p1 un col tl = some (r, q1, q2, q3) ∧ RD o1 o2 o3 q1 q2 q3 := by
  unfold fX8_unknowns fX9_unknowns
  have e0 : (0 : Int32).toInt = 0 := rfl
  have e1 : (1 : Int32).toInt = 1 := rfl
  have e4 : (4 : Int32).toInt = 4 := rfl
  have e5 : (5 : Int32).toInt = 5 := rfl
  have f1 : (1 : Int64).toInt = 1 := rfl
  have f4 : (4 : Int64).toInt = 4 := rfl
  have f5 : (5 : Int64).toInt = 5 := rfl
  by_cases a1 : 1 ≤ p0.toInt ∧ p0.toInt ≤ 4
  · rw [if_neg (by rw [Int32.lt_iff_toInt_lt, e1]; omega), if_neg (by rw [Int32.lt_iff_toInt_lt, e4]; omega), in9_y (by rw [t32_to64]; exact a1.1) (by rw [t32_to64]; exact a1.2)]
    simp only [Option.bind_some, i10]
    by_cases a2 : 1 ≤ p1.toInt ∧ p1.toInt ≤ 5
    · rw [if_neg (by rw [Int32.lt_iff_toInt_lt, e1]; omega), if_neg (by rw [Int32.lt_iff_toInt_lt, e5]; omega), in9_y (by rw [t32_to64]; exact a2.1) (by rw [t32_to64]; exact a2.2)]
      simp only [Option.bind_some, i10]
      obtain ⟨e, h1, h2⟩ := begin_n p0 p1 n m g
      obtain ⟨e', h3, h4⟩ := unk9_loop tl
      rw [h1, h3]
      have z : (0 : Int32).toInt.natAbs = 0 := rfl
      have main : RD p0 p1 e p0 p1 e' := by
        refine ⟨p0.toInt.toNat, p1.toInt.toNat, by omega, by omega, by omega, by omega, nI_of_toInt (by omega), nI_of_toInt (by omega), nI_of_toInt (by omega), nI_of_toInt (by omega), fun k hk => by rw [h2 k hk, h4 k hk], fun j hj => ⟨fun k hk => ?_, ?_⟩⟩
        · rw [h2 (5 * j + k) (by omega), z]; omega
        · rw [h2 (5 * j + p0.toInt.toNat) (by omega), z]; omega
      exact ⟨_, _, _, _, _, _, _, rfl, rfl, main⟩
    · rw [in9_no (by rw [t32_to64]; exact a2)]
      refine ⟨-2, _, _, _, _, _, _, ?_, rfl, h⟩
      by_cases q : p1 < 1
      · rw [if_pos q]
      · rw [if_neg q, if_pos]
        rw [Int32.lt_iff_toInt_lt, e1] at q
        rw [Int32.lt_iff_toInt_lt, e5]
        omega
  · rw [in9_no (by rw [t32_to64]; exact a1)]
    refine ⟨-2, _, _, _, _, _, _, ?_, rfl, h⟩
    by_cases q : p0 < 1
    · rw [if_pos q]
    · rw [if_neg q, if_pos]
      rw [Int32.lt_iff_toInt_lt, e1] at q
      rw [Int32.lt_iff_toInt_lt, e4]
      omega
theorem ix5 (i r : Nat) : nI i * (5 : Int32) + nI r = nI (5 * i + r) := by
  rw [show nI i * (5 : Int32) = nI (i * 5) from nI_mul i 5, nI_add, Nat.mul_comm i 5]
theorem ix5' (i r : Nat) : (5 : Int32) * nI i + nI r = nI (5 * i + r) := by
  rw [show (5 : Int32) * nI i = nI (5 * i) from nI_mul 5 i, nI_add]
theorem lt25 {i : Nat} (h : i < 25) : nI i < (25 : Int32) := nI_lt h (by decide)
theorem hasU_cases (p0 p1 : Int32) {n m : Nat} (hn : 1 ≤ n ∧ n ≤ 4) (hm : 1 ≤ m ∧ m ≤ 5) : (∃ j k, j < m ∧ k ≤ n ∧ p0 = nI j ∧ p1 = nI k ∧ fX0_has p0 p1 (nI n) (nI m) = some 1 ∧ fX9_in p0.toInt64 (0 : Int64) ((nI m - (1 : Int32)).toInt64) = some 1 ∧ fX9_in p1.toInt64 (0 : Int64) (nI n).toInt64 = some 1) ∨ (fX0_has p0 p1 (nI n) (nI m) = some 0 ∧ (fX9_in p0.toInt64 (0 : Int64) ((nI m - (1 : Int32)).toInt64) = some 0 ∨ fX9_in p0.toInt64 (0 : Int64) ((nI m - (1 : Int32)).toInt64) = some 1 ∧ fX9_in p1.toInt64 (0 : Int64) (nI n).toInt64 = some 0)) := by
  have f0 : (0 : Int64).toInt = 0 := rfl
  have em : ((nI m - (1 : Int32)).toInt64).toInt = (m : Int) - 1 := by rw [nI_b1 hm.1, nI_64 (by omega)]; omega
  unfold fX0_has
  rcases rng p0 m (by omega) with ⟨j, hj, rfl⟩ | q
  · rw [if_neg (nI_not_neg (by omega)), if_pos (nI_lt hj (by omega)), in9_y (by rw [nI_64 (by omega), f0]; omega) (by rw [nI_64 (by omega), em]; omega)]
    rcases rng p1 (n + 1) (by omega) with ⟨k, hk, rfl⟩ | q
    · left
      rw [if_neg (nI_not_neg (by omega)), if_neg (nI_nlt (by omega) (by omega)), in9_y (by rw [nI_64 (by omega), f0]; omega) (by rw [nI_64 (by omega), nI_64 (by omega)]; omega)]
      exact ⟨j, k, hj, by omega, rfl, rfl, rfl, rfl, rfl⟩
    · right
      refine ⟨?_, Or.inr ⟨rfl, in9_no (by rw [t32_to64, f0, nI_64 (by omega)]; omega)⟩⟩
      by_cases q1 : p1 < 0
      · rw [if_pos q1]
      · rw [if_neg q1, if_pos]
        rw [Int32.lt_iff_toInt_lt] at q1 ⊢
        rw [nI_toInt (by omega)]
        have : ¬ p1.toInt < 0 := q1
        omega
  · right
    refine ⟨?_, Or.inl (in9_no (by rw [t32_to64, f0, em]; omega))⟩
    by_cases q1 : p0 < 0
    · rw [if_pos q1]
    · rw [if_neg q1, if_neg]
      rw [Int32.lt_iff_toInt_lt] at q1 ⊢
      rw [nI_toInt (by omega)]
      have : ¬ p0.toInt < 0 := q1
      omega
theorem G_set (p0 p1 p2 : Int32) {n m g un col tl} (h : RD n m g un col tl) : ∃ (r : Int32) (o1 q1 : Nat → Int32), fX8_set p0 p1 p2 n m g = some (r, o1) ∧ fX9_set p0 p1 p2 un col tl = some (r, q1) ∧ RD n m o1 un col q1 := by
  obtain ⟨n, m, n1, n4, m1, m5, rfl, rfl, rfl, rfl, heq, hbd⟩ := id h
  unfold fX8_set fX9_set
  rcases hasU_cases p0 p1 ⟨n1, n4⟩ ⟨m1, m5⟩ with ⟨j, k, hj, hk, rfl, rfl, h8, h9, h10⟩ | ⟨h8, h9⟩
  · rw [h8, h9]
    simp only [Option.bind_some, i10]
    rw [h10]
    simp only [Option.bind_some, i10]
    have key : ∀ (s0 : Int32) (s : Nat), s0.toInt = s → s ≤ 9999 → (k = n → s = 9999) → (k ≠ n → s = 50) → ∃ (r : Int32) (o1 q1 : Nat → Int32), fX8_set_B34 (nI j) (nI k) p2 s0 g = some (r, o1) ∧ fX9_set_B49 (nI j) (nI k) p2 s0 tl = some (r, q1) ∧ RD (nI n) (nI m) o1 (nI n) (nI m) q1 := by
      intro s0 s hs hs9 hk1 hk2
      unfold fX8_set_B34 fX9_set_B49
      have hneg : (-s0).toInt = -(s : Int) := by rw [t32_neg (by omega), hs]
      by_cases a : -(s : Int) ≤ p2.toInt ∧ p2.toInt ≤ s
      · rw [if_neg (by rw [Int32.lt_iff_toInt_lt, hneg]; omega), if_neg (by rw [Int32.lt_iff_toInt_lt, hs]; omega), in9_y (by rw [t32_to64, t32_to64, hneg]; exact a.1) (by rw [t32_to64, t32_to64, hs]; exact a.2)]
        simp only [Option.bind_some, i10]
        unfold fX0_exchangeGiven
        rw [ix5, ix5', if_neg (nI_not_neg (by omega)), if_pos (lt25 (by omega)), rdI_n (by omega) (by decide), rdI_n (by omega) (by decide), heq _ (by omega)]
        simp only [Option.bind_some]
        rw [wrI_n _ (by omega) (by decide), wrI_n _ (by omega) (by decide)]
        simp only [bn2, Option.bind_some]
        refine ⟨_, _, _, rfl, rfl, n, m, n1, n4, m1, m5, rfl, rfl, rfl, rfl, fun k' hk' => ?_, fun j' hj' => ⟨fun k' hk' => ?_, ?_⟩⟩
        · by_cases e : k' = 5 * j + k
          · subst e; rw [upd_at, upd_at]
          · rw [upd_ne e, upd_ne e]; exact heq k' hk'
        · by_cases e : 5 * j' + k' = 5 * j + k
          · rw [e, upd_at]
            have := hk2 (by omega)
            omega
          · rw [upd_ne e]; exact (hbd j' hj').1 k' hk'
        · by_cases e : 5 * j' + n = 5 * j + k
          · rw [e, upd_at]
            omega
          · rw [upd_ne e]; exact (hbd j' hj').2
      · rw [in9_no (by rw [t32_to64, t32_to64, t32_to64, hneg, hs]; exact a)]
        refine ⟨-100002, _, _, ?_, rfl, h⟩
        by_cases q : p2 < -s0
        · rw [if_pos q]
        · rw [if_neg q, if_pos]
          rw [Int32.lt_iff_toInt_lt, hneg] at q
          rw [Int32.lt_iff_toInt_lt, hs]
          omega
    by_cases q : k = n
    · rw [if_pos (by rw [q]), if_pos (by rw [q])]
      exact key 9999 9999 rfl (by omega) (fun _ => rfl) (fun z => absurd q z)
    · rw [if_neg (nI_ne q (by omega) (by omega)), if_neg (nI_ne q (by omega) (by omega))]
      exact key 50 50 rfl (by omega) (fun z => absurd z q) (fun _ => rfl)
  · rw [h8]
    rcases h9 with h9 | ⟨h9, h10⟩
    · rw [h9]
      exact ⟨_, _, _, rfl, rfl, h⟩
    · rw [h9]
      simp only [Option.bind_some, i10]
      rw [h10]
      exact ⟨_, _, _, rfl, rfl, h⟩
